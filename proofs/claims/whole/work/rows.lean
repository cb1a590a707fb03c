section
-- ===== PART A: goes FIRST, ahead of the names: the tables' words, and 'selects' of the private methods out of them =====
/-- a private method of a class that the tables say can be made, by its rows of tables_1 -/
def lw_okq (q : MethodName × Nat) : Prop := (q.1.cls ≠ "java/lang/invoke/MethodHandle" ∧ q.1.cls ≠ "java/lang/invoke/VarHandle") ∧ Cond.instantiable q.1.cls q.2 ∈ tables_1 ∧ Cond.privateMethod q.1 ∈ tables_1 ∧ Cond.instanceMethod q.1 ∈ tables_1
theorem lw_p0 : lw_okq (⟨"MayorsChair", "poorestHelped", "(III)I"⟩, 7) := ⟨⟨by decide +kernel, by decide +kernel⟩, List.mem_of_getElem? (i := 11) (by decide +kernel), List.mem_of_getElem? (i := 380) (by decide +kernel), List.mem_of_getElem? (i := 381) (by decide +kernel)⟩
theorem lw_p1 : lw_okq (⟨"MayorsChair", "chairBehind", "(II)I"⟩, 7) := ⟨⟨by decide +kernel, by decide +kernel⟩, List.mem_of_getElem? (i := 11) (by decide +kernel), List.mem_of_getElem? (i := 419) (by decide +kernel), List.mem_of_getElem? (i := 420) (by decide +kernel)⟩
theorem lw_p2 : lw_okq (⟨"MayorsChairModel", "empty", "()V"⟩, 21) := ⟨⟨by decide +kernel, by decide +kernel⟩, List.mem_of_getElem? (i := 470) (by decide +kernel), List.mem_of_getElem? (i := 476) (by decide +kernel), List.mem_of_getElem? (i := 477) (by decide +kernel)⟩
theorem lw_p3 : lw_okq (⟨"MayorsChairModel", "streetIs", "(III)V"⟩, 21) := ⟨⟨by decide +kernel, by decide +kernel⟩, List.mem_of_getElem? (i := 470) (by decide +kernel), List.mem_of_getElem? (i := 480) (by decide +kernel), List.mem_of_getElem? (i := 481) (by decide +kernel)⟩
theorem lw_p4 : lw_okq (⟨"MayorsChairModel", "workIs", "(I)V"⟩, 21) := ⟨⟨by decide +kernel, by decide +kernel⟩, List.mem_of_getElem? (i := 470) (by decide +kernel), List.mem_of_getElem? (i := 484) (by decide +kernel), List.mem_of_getElem? (i := 485) (by decide +kernel)⟩
theorem lw_p5 : lw_okq (⟨"MayorsChairModel", "begin", "()V"⟩, 21) := ⟨⟨by decide +kernel, by decide +kernel⟩, List.mem_of_getElem? (i := 470) (by decide +kernel), List.mem_of_getElem? (i := 488) (by decide +kernel), List.mem_of_getElem? (i := 489) (by decide +kernel)⟩
theorem lw_p6 : lw_okq (⟨"MayorsChairModel", "readAll", "()I"⟩, 21) := ⟨⟨by decide +kernel, by decide +kernel⟩, List.mem_of_getElem? (i := 470) (by decide +kernel), List.mem_of_getElem? (i := 573) (by decide +kernel), List.mem_of_getElem? (i := 574) (by decide +kernel)⟩
theorem lw_p7 : lw_okq (⟨"MayorsChairModel", "item", "()Z"⟩, 21) := ⟨⟨by decide +kernel, by decide +kernel⟩, List.mem_of_getElem? (i := 470) (by decide +kernel), List.mem_of_getElem? (i := 577) (by decide +kernel), List.mem_of_getElem? (i := 578) (by decide +kernel)⟩
theorem lw_p8 : lw_okq (⟨"MayorsChairModel", "letterAt", "(I)I"⟩, 21) := ⟨⟨by decide +kernel, by decide +kernel⟩, List.mem_of_getElem? (i := 470) (by decide +kernel), List.mem_of_getElem? (i := 581) (by decide +kernel), List.mem_of_getElem? (i := 582) (by decide +kernel)⟩
theorem lw_p9 : lw_okq (⟨"MayorsChairModel", "numbers", "(I)Z"⟩, 21) := ⟨⟨by decide +kernel, by decide +kernel⟩, List.mem_of_getElem? (i := 470) (by decide +kernel), List.mem_of_getElem? (i := 585) (by decide +kernel), List.mem_of_getElem? (i := 586) (by decide +kernel)⟩
theorem lw_p10 : lw_okq (⟨"MayorsChairModel", "isStreet", "(I)Z"⟩, 21) := ⟨⟨by decide +kernel, by decide +kernel⟩, List.mem_of_getElem? (i := 470) (by decide +kernel), List.mem_of_getElem? (i := 601) (by decide +kernel), List.mem_of_getElem? (i := 602) (by decide +kernel)⟩
theorem lw_p11 : lw_okq (⟨"MayorsChairModel", "aside", "()V"⟩, 21) := ⟨⟨by decide +kernel, by decide +kernel⟩, List.mem_of_getElem? (i := 470) (by decide +kernel), List.mem_of_getElem? (i := 606) (by decide +kernel), List.mem_of_getElem? (i := 607) (by decide +kernel)⟩
theorem lw_p12 : lw_okq (⟨"MayorsChairModel", "looks", "(I)I"⟩, 21) := ⟨⟨by decide +kernel, by decide +kernel⟩, List.mem_of_getElem? (i := 470) (by decide +kernel), List.mem_of_getElem? (i := 610) (by decide +kernel), List.mem_of_getElem? (i := 611) (by decide +kernel)⟩
theorem lw_p13 : lw_okq (⟨"MayorsChairModel", "kindOf", "(I)I"⟩, 21) := ⟨⟨by decide +kernel, by decide +kernel⟩, List.mem_of_getElem? (i := 470) (by decide +kernel), List.mem_of_getElem? (i := 614) (by decide +kernel), List.mem_of_getElem? (i := 615) (by decide +kernel)⟩
theorem lw_p14 : lw_okq (⟨"MayorsChairModel", "isWork", "(I)Z"⟩, 21) := ⟨⟨by decide +kernel, by decide +kernel⟩, List.mem_of_getElem? (i := 470) (by decide +kernel), List.mem_of_getElem? (i := 622) (by decide +kernel), List.mem_of_getElem? (i := 623) (by decide +kernel)⟩
theorem lw_p15 : lw_okq (⟨"MayorsChairModel", "note", "()V"⟩, 21) := ⟨⟨by decide +kernel, by decide +kernel⟩, List.mem_of_getElem? (i := 470) (by decide +kernel), List.mem_of_getElem? (i := 631) (by decide +kernel), List.mem_of_getElem? (i := 632) (by decide +kernel)⟩
def lw_privs_1 : List (MethodName × Nat) := [(⟨"MayorsChair", "poorestHelped", "(III)I"⟩, 7), (⟨"MayorsChair", "chairBehind", "(II)I"⟩, 7), (⟨"MayorsChairModel", "empty", "()V"⟩, 21), (⟨"MayorsChairModel", "streetIs", "(III)V"⟩, 21), (⟨"MayorsChairModel", "workIs", "(I)V"⟩, 21), (⟨"MayorsChairModel", "begin", "()V"⟩, 21), (⟨"MayorsChairModel", "readAll", "()I"⟩, 21), (⟨"MayorsChairModel", "item", "()Z"⟩, 21), (⟨"MayorsChairModel", "letterAt", "(I)I"⟩, 21), (⟨"MayorsChairModel", "numbers", "(I)Z"⟩, 21), (⟨"MayorsChairModel", "isStreet", "(I)Z"⟩, 21), (⟨"MayorsChairModel", "aside", "()V"⟩, 21), (⟨"MayorsChairModel", "looks", "(I)I"⟩, 21), (⟨"MayorsChairModel", "kindOf", "(I)I"⟩, 21), (⟨"MayorsChairModel", "isWork", "(I)Z"⟩, 21), (⟨"MayorsChairModel", "note", "()V"⟩, 21)]
theorem lw_r1 : ∀ q ∈ lw_privs_1, lw_okq q := List.forall_mem_cons.mpr ⟨lw_p0, List.forall_mem_cons.mpr ⟨lw_p1, List.forall_mem_cons.mpr ⟨lw_p2, List.forall_mem_cons.mpr ⟨lw_p3, List.forall_mem_cons.mpr ⟨lw_p4, List.forall_mem_cons.mpr ⟨lw_p5, List.forall_mem_cons.mpr ⟨lw_p6, List.forall_mem_cons.mpr ⟨lw_p7, List.forall_mem_cons.mpr ⟨lw_p8, List.forall_mem_cons.mpr ⟨lw_p9, List.forall_mem_cons.mpr ⟨lw_p10, List.forall_mem_cons.mpr ⟨lw_p11, List.forall_mem_cons.mpr ⟨lw_p12, List.forall_mem_cons.mpr ⟨lw_p13, List.forall_mem_cons.mpr ⟨lw_p14, List.forall_mem_cons.mpr ⟨lw_p15, fun _ h => absurd h List.not_mem_nil⟩⟩⟩⟩⟩⟩⟩⟩⟩⟩⟩⟩⟩⟩⟩⟩
theorem lw_p16 : lw_okq (⟨"MayorsChairModel", "goQuarters", "(I)V"⟩, 21) := ⟨⟨by decide +kernel, by decide +kernel⟩, List.mem_of_getElem? (i := 470) (by decide +kernel), List.mem_of_getElem? (i := 635) (by decide +kernel), List.mem_of_getElem? (i := 636) (by decide +kernel)⟩
theorem lw_p17 : lw_okq (⟨"MayorsChairModel", "goQuarter", "(Z)V"⟩, 21) := ⟨⟨by decide +kernel, by decide +kernel⟩, List.mem_of_getElem? (i := 470) (by decide +kernel), List.mem_of_getElem? (i := 639) (by decide +kernel), List.mem_of_getElem? (i := 640) (by decide +kernel)⟩
theorem lw_p18 : lw_okq (⟨"MayorsChairModel", "usesOf", "(I)I"⟩, 21) := ⟨⟨by decide +kernel, by decide +kernel⟩, List.mem_of_getElem? (i := 470) (by decide +kernel), List.mem_of_getElem? (i := 643) (by decide +kernel), List.mem_of_getElem? (i := 644) (by decide +kernel)⟩
theorem lw_p19 : lw_okq (⟨"MayorsChairModel", "poorest", "(I)I"⟩, 21) := ⟨⟨by decide +kernel, by decide +kernel⟩, List.mem_of_getElem? (i := 470) (by decide +kernel), List.mem_of_getElem? (i := 647) (by decide +kernel), List.mem_of_getElem? (i := 648) (by decide +kernel)⟩
theorem lw_p20 : lw_okq (⟨"MayorsChairModel", "take", "()V"⟩, 21) := ⟨⟨by decide +kernel, by decide +kernel⟩, List.mem_of_getElem? (i := 470) (by decide +kernel), List.mem_of_getElem? (i := 651) (by decide +kernel), List.mem_of_getElem? (i := 652) (by decide +kernel)⟩
theorem lw_p21 : lw_okq (⟨"MayorsChairModel", "goGive", "(III)Z"⟩, 21) := ⟨⟨by decide +kernel, by decide +kernel⟩, List.mem_of_getElem? (i := 470) (by decide +kernel), List.mem_of_getElem? (i := 663) (by decide +kernel), List.mem_of_getElem? (i := 664) (by decide +kernel)⟩
theorem lw_p22 : lw_okq (⟨"MayorsChairModel", "greatest", "()I"⟩, 21) := ⟨⟨by decide +kernel, by decide +kernel⟩, List.mem_of_getElem? (i := 470) (by decide +kernel), List.mem_of_getElem? (i := 689) (by decide +kernel), List.mem_of_getElem? (i := 690) (by decide +kernel)⟩
theorem lw_p23 : lw_okq (⟨"MayorsChairModel", "least", "()I"⟩, 21) := ⟨⟨by decide +kernel, by decide +kernel⟩, List.mem_of_getElem? (i := 470) (by decide +kernel), List.mem_of_getElem? (i := 693) (by decide +kernel), List.mem_of_getElem? (i := 694) (by decide +kernel)⟩
theorem lw_p24 : lw_okq (⟨"MayorsChairModel", "nextOrder", "()Z"⟩, 21) := ⟨⟨by decide +kernel, by decide +kernel⟩, List.mem_of_getElem? (i := 470) (by decide +kernel), List.mem_of_getElem? (i := 702) (by decide +kernel), List.mem_of_getElem? (i := 703) (by decide +kernel)⟩
theorem lw_p25 : lw_okq (⟨"MayorsChairModel", "swap", "(II)V"⟩, 21) := ⟨⟨by decide +kernel, by decide +kernel⟩, List.mem_of_getElem? (i := 470) (by decide +kernel), List.mem_of_getElem? (i := 706) (by decide +kernel), List.mem_of_getElem? (i := 707) (by decide +kernel)⟩
theorem lw_p26 : lw_okq (⟨"MayorsChairModel", "isSeen", "()Z"⟩, 21) := ⟨⟨by decide +kernel, by decide +kernel⟩, List.mem_of_getElem? (i := 470) (by decide +kernel), List.mem_of_getElem? (i := 730) (by decide +kernel), List.mem_of_getElem? (i := 731) (by decide +kernel)⟩
theorem lw_p27 : lw_okq (⟨"MayorsChairModel", "goDrawn", "(I)V"⟩, 21) := ⟨⟨by decide +kernel, by decide +kernel⟩, List.mem_of_getElem? (i := 470) (by decide +kernel), List.mem_of_getElem? (i := 755) (by decide +kernel), List.mem_of_getElem? (i := 756) (by decide +kernel)⟩
theorem lw_p28 : lw_okq (⟨"MayorsChairModel", "wealthOfAll", "()I"⟩, 21) := ⟨⟨by decide +kernel, by decide +kernel⟩, List.mem_of_getElem? (i := 470) (by decide +kernel), List.mem_of_getElem? (i := 759) (by decide +kernel), List.mem_of_getElem? (i := 760) (by decide +kernel)⟩
def lw_privs_2 : List (MethodName × Nat) := [(⟨"MayorsChairModel", "goQuarters", "(I)V"⟩, 21), (⟨"MayorsChairModel", "goQuarter", "(Z)V"⟩, 21), (⟨"MayorsChairModel", "usesOf", "(I)I"⟩, 21), (⟨"MayorsChairModel", "poorest", "(I)I"⟩, 21), (⟨"MayorsChairModel", "take", "()V"⟩, 21), (⟨"MayorsChairModel", "goGive", "(III)Z"⟩, 21), (⟨"MayorsChairModel", "greatest", "()I"⟩, 21), (⟨"MayorsChairModel", "least", "()I"⟩, 21), (⟨"MayorsChairModel", "nextOrder", "()Z"⟩, 21), (⟨"MayorsChairModel", "swap", "(II)V"⟩, 21), (⟨"MayorsChairModel", "isSeen", "()Z"⟩, 21), (⟨"MayorsChairModel", "goDrawn", "(I)V"⟩, 21), (⟨"MayorsChairModel", "wealthOfAll", "()I"⟩, 21)]
theorem lw_r2 : ∀ q ∈ lw_privs_2, lw_okq q := List.forall_mem_cons.mpr ⟨lw_p16, List.forall_mem_cons.mpr ⟨lw_p17, List.forall_mem_cons.mpr ⟨lw_p18, List.forall_mem_cons.mpr ⟨lw_p19, List.forall_mem_cons.mpr ⟨lw_p20, List.forall_mem_cons.mpr ⟨lw_p21, List.forall_mem_cons.mpr ⟨lw_p22, List.forall_mem_cons.mpr ⟨lw_p23, List.forall_mem_cons.mpr ⟨lw_p24, List.forall_mem_cons.mpr ⟨lw_p25, List.forall_mem_cons.mpr ⟨lw_p26, List.forall_mem_cons.mpr ⟨lw_p27, List.forall_mem_cons.mpr ⟨lw_p28, fun _ h => absurd h List.not_mem_nil⟩⟩⟩⟩⟩⟩⟩⟩⟩⟩⟩⟩⟩
def lw_privs : List (MethodName × Nat) := lw_privs_1 ++ (lw_privs_2)
def lw_tbl : List Cond := k2_sels lw_privs ++ tables_1
theorem lw_privs_ok : ∀ q ∈ lw_privs, lw_okq q := by
  show ∀ q ∈ lw_privs_1 ++ (lw_privs_2), lw_okq q
  exact List.forall_mem_append.mpr ⟨lw_r1, lw_r2⟩

def RX0 : String := "MayorsChair$Orders"
def TX0 : u_T := fun k => match k with
  | 0 => ("MayorsChair$Orders", "tried", "[I", true)
  | _ => ("MayorsChair$Orders", "best", "[I", true)
def tyX0 : Nat → FieldType := fun k => match k with
  | 0 => .array .int
  | _ => .array .int
abbrev wsX00 : List Cond := u_ws RX0 TX0 2
theorem nmX0 : ∀ a, a < 2 → ∀ b, b < 2 → a ≠ b → (TX0 a).2.1 ≠ (TX0 b).2.1 := by decide +kernel
theorem tyX0_ok : ∀ k, k < 2 → parseFieldDescriptor (TX0 k).2.2.1 = some (tyX0 k) := by decide +kernel
def RX1 : String := "MayorsChair$Pile"
def TX1 : u_T := fun k => match k with
  | 0 => ("MayorsChair$Pile", "towns", "[LMayorsChair$Town;", true)
  | _ => ("MayorsChair$Pile", "size", "I", false)
def tyX1 : Nat → FieldType := fun k => match k with
  | 0 => .array (.object "MayorsChair$Town")
  | _ => .int
abbrev wsX10 : List Cond := u_ws RX1 TX1 2
theorem nmX1 : ∀ a, a < 2 → ∀ b, b < 2 → a ≠ b → (TX1 a).2.1 ≠ (TX1 b).2.1 := by decide +kernel
theorem tyX1_ok : ∀ k, k < 2 → parseFieldDescriptor (TX1 k).2.2.1 = some (tyX1 k) := by decide +kernel
def RX2 : String := "MayorsChair$Scroll"
def TX2 : u_T := fun k => match k with
  | 0 => ("MayorsChair$Scroll", "letters", "[C", true)
  | 1 => ("MayorsChair$Scroll", "length", "I", false)
  | _ => ("MayorsChair$Scroll", "place", "I", false)
def tyX2 : Nat → FieldType := fun k => match k with
  | 0 => .array .char
  | 1 => .int
  | _ => .int
abbrev wsX20 : List Cond := u_ws RX2 TX2 3
theorem nmX2 : ∀ a, a < 3 → ∀ b, b < 3 → a ≠ b → (TX2 a).2.1 ≠ (TX2 b).2.1 := by decide +kernel
theorem tyX2_ok : ∀ k, k < 3 → parseFieldDescriptor (TX2 k).2.2.1 = some (tyX2 k) := by decide +kernel
def RX3 : String := "MayorsChair$Sightings"
def TX3 : u_T := fun k => match k with
  | 0 => ("MayorsChair$Sightings", "quarters", "[I", true)
  | 1 => ("MayorsChair$Sightings", "places", "[I", true)
  | _ => ("MayorsChair$Sightings", "size", "I", false)
def tyX3 : Nat → FieldType := fun k => match k with
  | 0 => .array .int
  | 1 => .array .int
  | _ => .int
abbrev wsX30 : List Cond := u_ws RX3 TX3 3
theorem nmX3 : ∀ a, a < 3 → ∀ b, b < 3 → a ≠ b → (TX3 a).2.1 ≠ (TX3 b).2.1 := by decide +kernel
theorem tyX3_ok : ∀ k, k < 3 → parseFieldDescriptor (TX3 k).2.2.1 = some (tyX3 k) := by decide +kernel
def RX4 : String := "MayorsChair$Town"
def TX4 : u_T := fun k => match k with
  | 0 => ("MayorsChair$Town", "kind", "[I", true)
  | 1 => ("MayorsChair$Town", "wealth", "[I", true)
  | 2 => ("MayorsChair$Town", "use", "[I", true)
  | 3 => ("MayorsChair$Town", "dirt", "[I", true)
  | 4 => ("MayorsChair$Town", "stood", "[I", true)
  | 5 => ("MayorsChair$Town", "worth", "[I", true)
  | 6 => ("MayorsChair$Town", "streets", "I", false)
  | 7 => ("MayorsChair$Town", "works", "I", false)
  | 8 => ("MayorsChair$Town", "quarter", "I", false)
  | 9 => ("MayorsChair$Town", "chair", "I", false)
  | _ => ("MayorsChair$Town", "firewood", "I", false)
def tyX4 : Nat → FieldType := fun k => match k with
  | 0 => .array .int
  | 1 => .array .int
  | 2 => .array .int
  | 3 => .array .int
  | 4 => .array .int
  | 5 => .array .int
  | 6 => .int
  | 7 => .int
  | 8 => .int
  | 9 => .int
  | _ => .int
abbrev wsX40 : List Cond := u_ws RX4 TX4 11
theorem nmX4 : ∀ a, a < 11 → ∀ b, b < 11 → a ≠ b → (TX4 a).2.1 ≠ (TX4 b).2.1 := by decide +kernel
theorem tyX4_ok : ∀ k, k < 11 → parseFieldDescriptor (TX4 k).2.2.1 = some (tyX4 k) := by decide +kernel
def RX5 : String := "MayorsChair"
def TX5 : u_T := fun k => match k with
  | 0 => ("MayorsChair", "scroll", "LMayorsChair$Scroll;", true)
  | 1 => ("MayorsChair", "town", "LMayorsChair$Town;", true)
  | 2 => ("MayorsChair", "trial", "LMayorsChair$Town;", true)
  | 3 => ("MayorsChair", "past", "LMayorsChair$Pile;", true)
  | 4 => ("MayorsChair", "store", "LMayorsChair$Pile;", true)
  | 5 => ("MayorsChair", "sightings", "LMayorsChair$Sightings;", true)
  | _ => ("MayorsChair", "orders", "LMayorsChair$Orders;", true)
def tyX5 : Nat → FieldType := fun k => match k with
  | 0 => .object "MayorsChair$Scroll"
  | 1 => .object "MayorsChair$Town"
  | 2 => .object "MayorsChair$Town"
  | 3 => .object "MayorsChair$Pile"
  | 4 => .object "MayorsChair$Pile"
  | 5 => .object "MayorsChair$Sightings"
  | _ => .object "MayorsChair$Orders"
abbrev wsX50 : List Cond := u_ws RX5 TX5 7
theorem nmX5 : ∀ a, a < 7 → ∀ b, b < 7 → a ≠ b → (TX5 a).2.1 ≠ (TX5 b).2.1 := by decide +kernel
theorem tyX5_ok : ∀ k, k < 7 → parseFieldDescriptor (TX5 k).2.2.1 = some (tyX5 k) := by decide +kernel
def RX6 : String := "MayorsChairModel"
def TX6 : u_T := fun k => match k with
  | 0 => ("MayorsChairModel", "length", "I", false)
  | 1 => ("MayorsChairModel", "text", "[I", true)
  | 2 => ("MayorsChairModel", "told", "[I", true)
  | 3 => ("MayorsChairModel", "read", "[I", true)
  | 4 => ("MayorsChairModel", "readRow", "[I", true)
  | 5 => ("MayorsChairModel", "now", "[I", true)
  | 6 => ("MayorsChairModel", "side", "[I", true)
  | 7 => ("MayorsChairModel", "before", "[I", true)
  | 8 => ("MayorsChairModel", "undoMany", "I", false)
  | 9 => ("MayorsChairModel", "kept", "[I", true)
  | 10 => ("MayorsChairModel", "keptMany", "I", false)
  | 11 => ("MayorsChairModel", "noted", "[I", true)
  | 12 => ("MayorsChairModel", "notedMany", "I", false)
  | 13 => ("MayorsChairModel", "spot", "I", false)
  | 14 => ("MayorsChairModel", "number", "[I", true)
  | 15 => ("MayorsChairModel", "otherOne", "I", false)
  | 16 => ("MayorsChairModel", "otherKind", "I", false)
  | 17 => ("MayorsChairModel", "otherUser", "I", false)
  | 18 => ("MayorsChairModel", "otherUse", "I", false)
  | 19 => ("MayorsChairModel", "order", "[I", true)
  | _ => ("MayorsChairModel", "bestOrder", "[I", true)
def tyX6 : Nat → FieldType := fun k => match k with
  | 0 => .int
  | 1 => .array .int
  | 2 => .array .int
  | 3 => .array .int
  | 4 => .array .int
  | 5 => .array .int
  | 6 => .array .int
  | 7 => .array .int
  | 8 => .int
  | 9 => .array .int
  | 10 => .int
  | 11 => .array .int
  | 12 => .int
  | 13 => .int
  | 14 => .array .int
  | 15 => .int
  | 16 => .int
  | 17 => .int
  | 18 => .int
  | 19 => .array .int
  | _ => .array .int
abbrev wsX60 : List Cond := u_ws RX6 TX6 21
theorem nmX6 : ∀ a, a < 21 → ∀ b, b < 21 → a ≠ b → (TX6 a).2.1 ≠ (TX6 b).2.1 := by decide +kernel
theorem tyX6_ok : ∀ k, k < 21 → parseFieldDescriptor (TX6 k).2.2.1 = some (tyX6 k) := by decide +kernel
abbrev vwCl : List vw_C := [(RX0, TX0, 2), (RX1, TX1, 2), (RX2, TX2, 3), (RX3, TX3, 3), (RX4, TX4, 11), (RX5, TX5, 7), (RX6, TX6, 21)]
end
section
def ms_CN : List String := ["MayorsChair$Orders", "MayorsChair$Pile", "MayorsChair$Scroll", "MayorsChair$Sightings", "MayorsChair$Town", "MayorsChair", "MayorsChairModel", "MayorsChairLaw", "java/lang/Math", "java/lang/Integer"]
def ms_cn (o : Nat) : String := ms_CN.getD o ""
def ms_Yl : List (MethodName) := [⟨"MayorsChair$Orders", "<init>", "()V"⟩, ⟨"MayorsChair$Orders", "findBest", "(LMayorsChair$Town;LMayorsChair$Town;I)I"⟩, ⟨"MayorsChair$Orders", "putOtherwise", "(LMayorsChair$Town;LMayorsChair$Town;)V"⟩, ⟨"MayorsChair$Orders", "noteBest", "()V"⟩, ⟨"MayorsChair$Orders", "advance", "(I)Z"⟩, ⟨"MayorsChair$Orders", "swap", "(II)V"⟩, ⟨"MayorsChair$Pile", "<init>", "(I)V"⟩, ⟨"MayorsChair$Pile", "put", "(LMayorsChair$Town;)V"⟩, ⟨"MayorsChair$Pile", "dropLowest", "()V"⟩, ⟨"MayorsChair$Pile", "takeInto", "(LMayorsChair$Town;)Z"⟩, ⟨"MayorsChair$Scroll", "<init>", "()V"⟩, ⟨"MayorsChair$Scroll", "append", "(C)Z"⟩, ⟨"MayorsChair$Scroll", "readInto", "(LMayorsChair$Town;)I"⟩, ⟨"MayorsChair$Scroll", "readItem", "(LMayorsChair$Town;)Z"⟩, ⟨"MayorsChair$Scroll", "takes", "(C)Z"⟩, ⟨"MayorsChair$Scroll", "number", "(C)I"⟩, ⟨"MayorsChair$Scroll", "figure", "()I"⟩, ⟨"MayorsChair$Sightings", "<init>", "()V"⟩, ⟨"MayorsChair$Sightings", "append", "(II)Z"⟩, ⟨"MayorsChair$Sightings", "comeTrueIn", "(LMayorsChair$Town;)Z"⟩, ⟨"MayorsChair$Sightings", "agree", "(II)Z"⟩, ⟨"MayorsChair$Town", "<init>", "()V"⟩, ⟨"MayorsChair$Town", "addStreet", "(III)Z"⟩, ⟨"MayorsChair$Town", "addWork", "(I)Z"⟩, ⟨"MayorsChair$Town", "empty", "()V"⟩, ⟨"MayorsChair$Town", "become", "(LMayorsChair$Town;)V"⟩, ⟨"MayorsChair$Town", "hasStreet", "(I)Z"⟩, ⟨"MayorsChair$Town", "looks", "(I)I"⟩, ⟨"MayorsChair$Town", "hasWork", "(I)Z"⟩, ⟨"MayorsChair$Town", "letPass", "(I)V"⟩, ⟨"MayorsChair$Town", "nextQuarter", "(Z)V"⟩, ⟨"MayorsChair$Town", "poorestLooking", "(I)I"⟩, ⟨"MayorsChair$Town", "stand", "(I)V"⟩, ⟨"MayorsChair$Town", "worthNow", "()I"⟩, ⟨"MayorsChair$Town", "turn", "()I"⟩, ⟨"MayorsChair$Town", "enrich", "(II)V"⟩, ⟨"MayorsChair$Town", "canHand", "(III)Z"⟩, ⟨"MayorsChair$Town", "hand", "(III)V"⟩, ⟨"MayorsChair$Town", "richestWealth", "()I"⟩, ⟨"MayorsChair$Town", "poorestWealth", "()I"⟩, ⟨"MayorsChair$Town", "suffer", "(I)V"⟩, ⟨"MayorsChair$Town", "totalWealth", "()I"⟩, ⟨"MayorsChair", "<init>", "()V"⟩, ⟨"MayorsChair", "within", "(III)Z"⟩, ⟨"MayorsChair", "write", "(I)I"⟩, ⟨"MayorsChair", "wipe", "()I"⟩, ⟨"MayorsChair", "fault", "()I"⟩, ⟨"MayorsChair", "lay", "()I"⟩, ⟨"MayorsChair", "street", "(II)I"⟩, ⟨"MayorsChair", "work", "(I)I"⟩, ⟨"MayorsChair", "pass", "(I)I"⟩, ⟨"MayorsChair", "mud", "(II)I"⟩, ⟨"MayorsChair", "give", "(III)I"⟩, ⟨"MayorsChair", "change", "(II)I"⟩, ⟨"MayorsChair", "undo", "()I"⟩, ⟨"MayorsChair", "behind", "(III)I"⟩, ⟨"MayorsChair", "first", "(I)I"⟩, ⟨"MayorsChair", "even", "(I)I"⟩, ⟨"MayorsChair", "order", "(II)I"⟩, ⟨"MayorsChair", "paint", "(I)I"⟩, ⟨"MayorsChair", "help", "(III)I"⟩, ⟨"MayorsChair", "poorestHelped", "(III)I"⟩, ⟨"MayorsChair", "seen", "(II)I"⟩, ⟨"MayorsChair", "forget", "()I"⟩, ⟨"MayorsChair", "kinds", "(I)I"⟩, ⟨"MayorsChair", "uses", "(I)I"⟩, ⟨"MayorsChair", "likely", "(IIII)I"⟩, ⟨"MayorsChair", "chairBehind", "(II)I"⟩, ⟨"MayorsChair", "power", "(II)I"⟩, ⟨"MayorsChair", "greatestCommon", "(II)I"⟩, ⟨"MayorsChair", "decade", "(III)I"⟩, ⟨"MayorsChair", "draw", "(II)I"⟩, ⟨"MayorsChair", "keep", "()I"⟩, ⟨"MayorsChair", "back", "()I"⟩, ⟨"MayorsChair", "count", "(I)I"⟩, ⟨"MayorsChairModel", "<init>", "()V"⟩, ⟨"MayorsChairModel", "empty", "()V"⟩, ⟨"MayorsChairModel", "streetIs", "(III)V"⟩, ⟨"MayorsChairModel", "workIs", "(I)V"⟩, ⟨"MayorsChairModel", "begin", "()V"⟩, ⟨"MayorsChairModel", "write", "(I)I"⟩, ⟨"MayorsChairModel", "in", "(JJJ)Z"⟩, ⟨"MayorsChairModel", "wipe", "()I"⟩, ⟨"MayorsChairModel", "fault", "()I"⟩, ⟨"MayorsChairModel", "readAll", "()I"⟩, ⟨"MayorsChairModel", "item", "()Z"⟩, ⟨"MayorsChairModel", "letterAt", "(I)I"⟩, ⟨"MayorsChairModel", "numbers", "(I)Z"⟩, ⟨"MayorsChairModel", "lay", "()I"⟩, ⟨"MayorsChairModel", "street", "(II)I"⟩, ⟨"MayorsChairModel", "isStreet", "(I)Z"⟩, ⟨"MayorsChairModel", "aside", "()V"⟩, ⟨"MayorsChairModel", "looks", "(I)I"⟩, ⟨"MayorsChairModel", "kindOf", "(I)I"⟩, ⟨"MayorsChairModel", "work", "(I)I"⟩, ⟨"MayorsChairModel", "isWork", "(I)Z"⟩, ⟨"MayorsChairModel", "pass", "(I)I"⟩, ⟨"MayorsChairModel", "note", "()V"⟩, ⟨"MayorsChairModel", "goQuarters", "(I)V"⟩, ⟨"MayorsChairModel", "goQuarter", "(Z)V"⟩, ⟨"MayorsChairModel", "usesOf", "(I)I"⟩, ⟨"MayorsChairModel", "poorest", "(I)I"⟩, ⟨"MayorsChairModel", "take", "()V"⟩, ⟨"MayorsChairModel", "mud", "(II)I"⟩, ⟨"MayorsChairModel", "give", "(III)I"⟩, ⟨"MayorsChairModel", "goGive", "(III)Z"⟩, ⟨"MayorsChairModel", "change", "(II)I"⟩, ⟨"MayorsChairModel", "undo", "()I"⟩, ⟨"MayorsChairModel", "behind", "(III)I"⟩, ⟨"MayorsChairModel", "first", "(I)I"⟩, ⟨"MayorsChairModel", "even", "(I)I"⟩, ⟨"MayorsChairModel", "greatest", "()I"⟩, ⟨"MayorsChairModel", "least", "()I"⟩, ⟨"MayorsChairModel", "order", "(II)I"⟩, ⟨"MayorsChairModel", "nextOrder", "()Z"⟩, ⟨"MayorsChairModel", "swap", "(II)V"⟩, ⟨"MayorsChairModel", "paint", "(I)I"⟩, ⟨"MayorsChairModel", "help", "(III)I"⟩, ⟨"MayorsChairModel", "seen", "(II)I"⟩, ⟨"MayorsChairModel", "forget", "()I"⟩, ⟨"MayorsChairModel", "kinds", "(I)I"⟩, ⟨"MayorsChairModel", "isSeen", "()Z"⟩, ⟨"MayorsChairModel", "uses", "(I)I"⟩, ⟨"MayorsChairModel", "likely", "(IIII)I"⟩, ⟨"MayorsChairModel", "has", "(II)Z"⟩, ⟨"MayorsChairModel", "decade", "(III)I"⟩, ⟨"MayorsChairModel", "goDrawn", "(I)V"⟩, ⟨"MayorsChairModel", "wealthOfAll", "()I"⟩, ⟨"MayorsChairModel", "keep", "()I"⟩, ⟨"MayorsChairModel", "back", "()I"⟩, ⟨"MayorsChairModel", "count", "(I)I"⟩, ⟨"java/lang/Integer", "bitCount", "(I)I"⟩, ⟨"java/lang/Math", "max", "(II)I"⟩, ⟨"java/lang/Math", "min", "(II)I"⟩, ⟨"MayorsChairLaw", "law", "([I)Z"⟩]
def ms_Y (y : Nat) : MethodName := ms_Yl.getD y ⟨"", "", ""⟩
def ms_Bl : List (ByteArray) := [prog_2_method_1_code, prog_2_method_2_code, prog_2_method_3_code, prog_2_method_4_code, prog_2_method_5_code, prog_2_method_6_code, prog_3_method_1_code, prog_3_method_2_code, prog_3_method_3_code, prog_3_method_4_code, prog_4_method_1_code, prog_4_method_2_code, prog_4_method_3_code, prog_4_method_4_code, prog_4_method_5_code, prog_4_method_6_code, prog_4_method_7_code, prog_5_method_1_code, prog_5_method_2_code, prog_5_method_3_code, prog_5_method_4_code, prog_6_method_1_code, prog_6_method_3_code, prog_6_method_4_code, prog_6_method_2_code, prog_6_method_5_code, prog_6_method_6_code, prog_6_method_10_code, prog_6_method_7_code, prog_6_method_11_code, prog_6_method_12_code, prog_6_method_13_code, prog_6_method_14_code, prog_6_method_9_code, prog_6_method_8_code, prog_6_method_15_code, prog_6_method_16_code, prog_6_method_17_code, prog_6_method_20_code, prog_6_method_19_code, prog_6_method_18_code, prog_6_method_21_code, prog_1_method_1_code, prog_1_method_33_code, prog_1_method_2_code, prog_1_method_3_code, prog_1_method_4_code, prog_1_method_5_code, prog_1_method_6_code, prog_1_method_7_code, prog_1_method_8_code, prog_1_method_9_code, prog_1_method_10_code, prog_1_method_11_code, prog_1_method_12_code, prog_1_method_13_code, prog_1_method_14_code, prog_1_method_15_code, prog_1_method_16_code, prog_1_method_17_code, prog_1_method_18_code, prog_1_method_19_code, prog_1_method_20_code, prog_1_method_21_code, prog_1_method_22_code, prog_1_method_23_code, prog_1_method_24_code, prog_1_method_25_code, prog_1_method_26_code, prog_1_method_27_code, prog_1_method_28_code, prog_1_method_29_code, prog_1_method_30_code, prog_1_method_31_code, prog_1_method_32_code, prog_8_method_1_code, prog_8_method_4_code, prog_8_method_5_code, prog_8_method_6_code, prog_8_method_15_code, prog_8_method_7_code, prog_8_method_2_code, prog_8_method_8_code, prog_8_method_13_code, prog_8_method_12_code, prog_8_method_11_code, prog_8_method_9_code, prog_8_method_10_code, prog_8_method_14_code, prog_8_method_29_code, prog_8_method_16_code, prog_8_method_18_code, prog_8_method_22_code, prog_8_method_20_code, prog_8_method_30_code, prog_8_method_17_code, prog_8_method_32_code, prog_8_method_31_code, prog_8_method_25_code, prog_8_method_24_code, prog_8_method_21_code, prog_8_method_23_code, prog_8_method_19_code, prog_8_method_33_code, prog_8_method_35_code, prog_8_method_34_code, prog_8_method_36_code, prog_8_method_37_code, prog_8_method_38_code, prog_8_method_39_code, prog_8_method_40_code, prog_8_method_27_code, prog_8_method_26_code, prog_8_method_43_code, prog_8_method_41_code, prog_8_method_42_code, prog_8_method_44_code, prog_8_method_45_code, prog_8_method_46_code, prog_8_method_47_code, prog_8_method_49_code, prog_8_method_48_code, prog_8_method_50_code, prog_8_method_51_code, prog_8_method_3_code, prog_8_method_53_code, prog_8_method_52_code, prog_8_method_28_code, prog_8_method_54_code, prog_8_method_55_code, prog_8_method_56_code, prog_9_method_49_code, prog_10_method_65_code, prog_10_method_69_code, code]
def ms_B (y : Nat) : ByteArray := ms_Bl.getD y ⟨#[]⟩
def ms_Ll : List (Nat) := [1, 8, 4, 2, 6, 4, 3, 2, 3, 2, 1, 2, 4, 5, 2, 4, 2, 1, 3, 4, 4, 1, 4, 2, 1, 3, 2, 3, 2, 3, 3, 6, 2, 2, 1, 3, 4, 4, 3, 3, 4, 3, 1, 3, 2, 2, 1, 1, 3, 2, 2, 4, 4, 4, 1, 4, 3, 3, 4, 3, 8, 4, 3, 2, 4, 4, 8, 4, 4, 6, 5, 4, 1, 1, 2, 1, 2, 4, 2, 2, 2, 6, 2, 1, 2, 2, 2, 5, 1, 3, 2, 2, 5, 2, 2, 2, 2, 2, 3, 6, 2, 4, 2, 4, 4, 4, 4, 2, 4, 3, 3, 3, 3, 7, 6, 4, 3, 9, 3, 2, 3, 4, 3, 10, 2, 7, 6, 3, 2, 2, 2, 1, 2, 2, 4]
def ms_L (y : Nat) : Nat := ms_Ll.getD y 0
def ms_Rl : List (Option FieldType) := [none, (some .int), none, none, (some .boolean), none, none, none, none, (some .boolean), none, (some .boolean), (some .int), (some .boolean), (some .boolean), (some .int), (some .int), none, (some .boolean), (some .boolean), (some .boolean), none, (some .boolean), (some .boolean), none, none, (some .boolean), (some .int), (some .boolean), none, none, (some .int), none, (some .int), (some .int), none, (some .boolean), none, (some .int), (some .int), none, (some .int), none, (some .boolean), (some .int), (some .int), (some .int), (some .int), (some .int), (some .int), (some .int), (some .int), (some .int), (some .int), (some .int), (some .int), (some .int), (some .int), (some .int), (some .int), (some .int), (some .int), (some .int), (some .int), (some .int), (some .int), (some .int), (some .int), (some .int), (some .int), (some .int), (some .int), (some .int), (some .int), (some .int), none, none, none, none, none, (some .int), (some .boolean), (some .int), (some .int), (some .int), (some .boolean), (some .int), (some .boolean), (some .int), (some .int), (some .boolean), none, (some .int), (some .int), (some .int), (some .boolean), (some .int), none, none, none, (some .int), (some .int), none, (some .int), (some .int), (some .boolean), (some .int), (some .int), (some .int), (some .int), (some .int), (some .int), (some .int), (some .int), (some .boolean), none, (some .int), (some .int), (some .int), (some .int), (some .int), (some .boolean), (some .int), (some .int), (some .boolean), (some .int), none, (some .int), (some .int), (some .int), (some .int), (some .int), (some .int), (some .int), (some .boolean)]
def ms_R (y : Nat) : Option FieldType := ms_Rl.getD y none
def ms_Ol : List (Nat) := [0, 0, 0, 0, 0, 0, 1, 1, 1, 1, 2, 2, 2, 2, 2, 2, 2, 3, 3, 3, 3, 4, 4, 4, 4, 4, 4, 4, 4, 4, 4, 4, 4, 4, 4, 4, 4, 4, 4, 4, 4, 4, 5, 5, 5, 5, 5, 5, 5, 5, 5, 5, 5, 5, 5, 5, 5, 5, 5, 5, 5, 5, 5, 5, 5, 5, 5, 5, 5, 5, 5, 5, 5, 5, 5, 6, 6, 6, 6, 6, 6, 6, 6, 6, 6, 6, 6, 6, 6, 6, 6, 6, 6, 6, 6, 6, 6, 6, 6, 6, 6, 6, 6, 6, 6, 6, 6, 6, 6, 6, 6, 6, 6, 6, 6, 6, 6, 6, 6, 6, 6, 6, 6, 6, 6, 6, 6, 6, 6, 6, 6, 9, 8, 8, 7]
def ms_O (y : Nat) : Nat := ms_Ol.getD y 0
def ms_Al : List (Nat) := [1, 4, 3, 1, 2, 3, 2, 2, 1, 2, 1, 2, 2, 2, 2, 2, 1, 1, 3, 2, 3, 1, 4, 2, 1, 2, 2, 2, 2, 2, 2, 2, 2, 1, 1, 3, 4, 4, 1, 1, 2, 1, 1, 3, 2, 1, 1, 1, 3, 2, 2, 3, 4, 3, 1, 4, 2, 2, 3, 2, 4, 4, 3, 1, 2, 2, 5, 3, 2, 2, 4, 2, 1, 1, 2, 1, 1, 4, 2, 1, 2, 3, 1, 1, 1, 1, 2, 2, 1, 3, 2, 1, 2, 2, 2, 2, 2, 1, 2, 2, 2, 2, 1, 3, 4, 4, 3, 1, 4, 2, 2, 1, 1, 3, 1, 3, 2, 4, 3, 1, 2, 1, 2, 5, 2, 4, 2, 1, 1, 1, 2, 1, 2, 2, 2]
def ms_A (y : Nat) : Nat := ms_Al.getD y 0
def ms_Fl : List (Nat) := [1, 5, 1, 0, 1, 0, 2, 1, 0, 1, 1, 0, 3, 2, 0, 1, 0, 1, 0, 4, 0, 1, 1, 1, 0, 0, 0, 1, 0, 4, 3, 2, 2, 1, 0, 1, 0, 0, 1, 1, 1, 0, 3, 0, 1, 0, 4, 4, 2, 1, 5, 2, 2, 2, 2, 5, 4, 4, 6, 4, 6, 5, 1, 0, 5, 5, 5, 4, 0, 0, 4, 0, 2, 2, 1, 1, 0, 0, 0, 0, 1, 0, 0, 4, 3, 2, 0, 1, 4, 2, 1, 0, 1, 0, 2, 1, 5, 0, 4, 3, 0, 2, 0, 2, 2, 0, 2, 0, 5, 4, 4, 0, 0, 5, 1, 0, 4, 5, 2, 0, 5, 4, 5, 4, 0, 4, 1, 0, 0, 0, 1, 0, 0, 0, 7]
def ms_F (y : Nat) : Nat := ms_Fl.getD y 0
def ms_Wl : List (Nat) := [12, 112, 22, 0, 23, 0, 32, 22, 0, 22, 12, 0, 69, 45, 0, 21, 0, 12, 0, 90, 0, 12, 22, 22, 0, 0, 0, 21, 0, 90, 68, 43, 43, 21, 0, 21, 0, 0, 21, 21, 23, 0, 54, 0, 22, 0, 92, 92, 43, 21, 112, 43, 43, 43, 43, 112, 90, 90, 139, 90, 135, 112, 22, 0, 113, 113, 113, 90, 0, 0, 90, 0, 43, 43, 22, 23, 0, 0, 0, 0, 25, 0, 0, 91, 70, 49, 0, 25, 91, 46, 25, 0, 21, 0, 46, 25, 115, 0, 93, 68, 0, 45, 0, 46, 46, 0, 46, 0, 115, 93, 93, 0, 0, 115, 23, 0, 93, 115, 46, 0, 116, 93, 116, 93, 0, 93, 23, 0, 0, 0, 22, 0, 0, 0, 162]
def ms_W (y : Nat) : Nat := ms_Wl.getD y 0
def ms_fl : List ((Nat × Nat) × Nat × Nat) := [((2, 9), 2, 0), ((2, 15), 2, 1), ((5, 67), 2, 1), ((2, 24), 2, 2), ((4, 9), 4, 0), ((5, 92), 4, 0), ((4, 15), 4, 1), ((5, 96), 4, 1), ((4, 18), 4, 2), ((5, 99), 4, 2), ((4, 21), 4, 3), ((5, 106), 4, 3), ((4, 24), 4, 4), ((5, 109), 4, 4), ((4, 27), 4, 5), ((0, 47), 4, 5), ((5, 115), 4, 5), ((4, 34), 4, 6), ((5, 75), 4, 6), ((0, 18), 4, 7), ((4, 37), 4, 7), ((5, 78), 4, 7), ((4, 40), 4, 8), ((5, 118), 4, 8), ((4, 30), 4, 9), ((3, 34), 4, 9), ((5, 127), 4, 9), ((4, 43), 4, 10), ((5, 196), 4, 10), ((1, 15), 1, 0), ((1, 22), 1, 1), ((5, 85), 1, 1), ((3, 9), 3, 0), ((3, 15), 3, 1), ((3, 18), 3, 2), ((5, 88), 3, 2), ((0, 9), 0, 0), ((0, 15), 0, 1), ((5, 159), 0, 1), ((5, 10), 5, 0), ((5, 19), 5, 1), ((5, 23), 5, 2), ((5, 31), 5, 3), ((5, 35), 5, 4), ((5, 41), 5, 5), ((5, 48), 5, 6), ((6, 75), 6, 0), ((6, 7), 6, 1), ((6, 13), 6, 2), ((6, 16), 6, 3), ((6, 19), 6, 4), ((6, 22), 6, 5), ((6, 25), 6, 6), ((6, 28), 6, 7), ((6, 108), 6, 8), ((6, 31), 6, 9), ((6, 111), 6, 10), ((6, 34), 6, 11), ((6, 105), 6, 12), ((6, 78), 6, 13), ((6, 37), 6, 14), ((6, 40), 6, 15), ((6, 114), 6, 16), ((6, 44), 6, 17), ((6, 117), 6, 18), ((6, 47), 6, 19), ((6, 50), 6, 20)]
def ms_f (o i : Nat) : Option (Nat × Nat) := ms_fl.lookup (o, i)
def ms_cl : List ((Nat × Nat) × Nat × Nat) := [((7, 9), 42, 2), ((5, 1), 0, 4), ((5, 9), 10, 2), ((2, 3), 0, 4), ((5, 18), 21, 2), ((4, 3), 0, 4), ((5, 28), 6, 2), ((1, 1), 0, 4), ((1, 7), 132, 5), ((1, 21), 21, 2), ((5, 40), 17, 2), ((3, 3), 0, 4), ((5, 47), 0, 2), ((0, 3), 0, 4), ((5, 52), 22, 0), ((5, 56), 23, 0), ((7, 13), 44, 0), ((5, 60), 43, 1), ((5, 63), 11, 0), ((7, 18), 45, 0), ((7, 23), 46, 0), ((5, 71), 12, 0), ((2, 19), 24, 0), ((2, 27), 13, 0), ((2, 31), 14, 0), ((2, 35), 15, 0), ((2, 47), 16, 0), ((2, 39), 22, 0), ((2, 43), 23, 0), ((7, 27), 47, 0), ((5, 81), 25, 0), ((7, 31), 48, 0), ((5, 89), 26, 0), ((5, 102), 27, 0), ((4, 58), 132, 5), ((7, 36), 49, 0), ((5, 112), 28, 0), ((7, 40), 50, 0), ((5, 121), 7, 0), ((1, 26), 8, 0), ((1, 29), 25, 0), ((5, 124), 29, 0), ((4, 64), 30, 0), ((4, 68), 31, 0), ((4, 76), 27, 0), ((4, 72), 32, 0), ((4, 79), 26, 0), ((4, 82), 33, 0), ((4, 50), 34, 0), ((4, 54), 28, 0), ((4, 85), 35, 0), ((4, 89), 133, 6), ((7, 44), 51, 0), ((7, 48), 52, 0), ((5, 130), 36, 0), ((5, 133), 37, 0), ((7, 53), 53, 0), ((5, 137), 33, 0), ((7, 57), 54, 0), ((5, 141), 9, 0), ((7, 61), 55, 0), ((7, 65), 56, 0), ((5, 145), 30, 0), ((7, 69), 57, 0), ((5, 149), 38, 0), ((5, 152), 39, 0), ((7, 73), 58, 0), ((5, 155), 1, 0), ((0, 24), 2, 0), ((0, 43), 25, 0), ((0, 28), 29, 0), ((0, 32), 39, 0), ((0, 36), 3, 0), ((0, 39), 4, 0), ((0, 50), 5, 0), ((7, 77), 59, 0), ((7, 81), 60, 0), ((5, 162), 61, 0), ((5, 166), 35, 0), ((7, 85), 62, 0), ((5, 170), 18, 0), ((7, 89), 63, 0), ((7, 93), 64, 0), ((5, 173), 19, 0), ((3, 22), 132, 5), ((3, 28), 30, 0), ((3, 37), 20, 0), ((7, 97), 65, 0), ((7, 101), 66, 0), ((5, 176), 67, 0), ((5, 180), 131, 1), ((5, 185), 68, 1), ((5, 188), 69, 1), ((5, 191), 132, 5), ((7, 106), 70, 0), ((5, 199), 71, 1), ((5, 202), 40, 0), ((4, 92), 36, 0), ((4, 95), 37, 0), ((5, 205), 41, 0), ((7, 110), 72, 0), ((7, 114), 73, 0), ((7, 118), 74, 0), ((5, 216), 34, 0), ((7, 12), 75, 2), ((6, 1), 0, 4), ((6, 53), 76, 0), ((6, 56), 77, 0), ((6, 60), 78, 0), ((6, 64), 79, 0), ((7, 17), 80, 0), ((6, 71), 81, 1), ((7, 22), 82, 0), ((7, 26), 83, 0), ((6, 101), 84, 0), ((6, 97), 85, 0), ((6, 81), 86, 0), ((6, 91), 87, 0), ((7, 30), 88, 0), ((7, 35), 89, 0), ((6, 136), 90, 0), ((6, 141), 91, 0), ((6, 123), 92, 0), ((6, 120), 93, 0), ((7, 39), 94, 0), ((6, 144), 95, 0), ((7, 43), 96, 0), ((6, 149), 97, 0), ((6, 152), 98, 0), ((6, 132), 99, 0), ((6, 126), 100, 0), ((6, 129), 101, 0), ((6, 155), 102, 0), ((7, 47), 103, 0), ((7, 52), 104, 0), ((6, 158), 105, 0), ((7, 56), 106, 0), ((7, 60), 107, 0), ((7, 64), 108, 0), ((7, 68), 109, 0), ((7, 72), 110, 0), ((6, 166), 111, 0), ((6, 169), 112, 0), ((7, 76), 113, 0), ((6, 178), 114, 0), ((6, 172), 115, 0), ((7, 80), 116, 0), ((7, 84), 117, 0), ((7, 88), 118, 0), ((7, 92), 119, 0), ((7, 96), 120, 0), ((6, 181), 121, 0), ((7, 100), 122, 0), ((7, 105), 123, 0), ((6, 188), 124, 1), ((7, 109), 125, 0), ((6, 200), 126, 0), ((6, 203), 127, 0), ((7, 113), 128, 0), ((7, 117), 129, 0), ((7, 121), 130, 0), ((4, 46), 43, 3)]
def ms_c (o i : Nat) : Option (Nat × Nat) := ms_cl.lookup (o, i)
def ms_gl : List ((Nat × Nat) × Int64) := [((5, 208), 7919), ((5, 210), 6151), ((5, 212), 65521), ((5, 214), 2), ((6, 67), 32), ((6, 69), 126), ((6, 85), 48), ((6, 87), 57), ((6, 89), 2), ((6, 95), 40), ((6, 139), 5), ((6, 147), 20), ((6, 162), 60), ((6, 164), 99), ((6, 176), -1), ((6, 184), 8), ((6, 186), 10), ((6, 192), 9999), ((6, 194), 7919), ((6, 196), 6151), ((6, 198), 65521)]
def ms_g (o i : Nat) : Option Int64 := ms_gl.lookup (o, i)
def ms_il : List ((Nat × Nat) × Int32) := [((9, 265), 1431655765), ((9, 266), 858993459), ((9, 267), 252645135)]
def ms_i (o i : Nat) : Option Int32 := ms_il.lookup (o, i)
def ms_nl : List ((Nat × Nat) × Nat) := [((7, 7), 5), ((5, 7), 2), ((5, 16), 4), ((5, 26), 1), ((1, 13), 4), ((5, 38), 3), ((5, 45), 0), ((7, 10), 6)]
def ms_n (o i : Nat) : Option Nat := ms_nl.lookup (o, i)
def ms_dl : List (List Value) := [[.null, .null], [.null, .int 0], [.null, .int 0, .int 0], [.null, .null, .int 0], [.null, .null, .null, .null, .null, .null, .int 0, .int 0, .int 0, .int 0, .int 0], [.null, .null, .null, .null, .null, .null, .null], [.int 0, .null, .null, .null, .null, .null, .null, .null, .int 0, .null, .int 0, .null, .int 0, .int 0, .null, .int 0, .int 0, .int 0, .int 0, .null, .null]]
def ms_d (ci : Nat) : List Value := ms_dl.getD ci []
end
section
-- the small machine: its cells, its step, its runs
abbrev ms_C : Type := (Nat × List Value) ⊕ (Bool × List Int32) ⊕ List (Option Nat)
abbrev ms_Rs : Type := Option Value × List ms_C
def ms_obj (ci : Nat) (fs : List Value) : ms_C := .inl (ci, fs)
def ms_ia (l : List Int32) : ms_C := .inr (.inl (false, l))
def ms_ca (l : List Int32) : ms_C := .inr (.inl (true, l))
def ms_ra (l : List (Option Nat)) : ms_C := .inr (.inr l)
/-- the locals with a value of one slot put in place i -/
def ms_set (L : List (Option Value)) (i : Nat) (v : Value) : Option (List (Option Value)) :=
  if i < L.length then
    match i with
    | 0 => some (L.set 0 (some v))
    | j + 1 => match L[j]? with
      | some (some (.long _)) => none
      | some (some (.double _)) => none
      | _ => some (L.set (j + 1) (some v))
  else none
def ms_set2 (L : List (Option Value)) (i : Nat) (v : Value) : Option (List (Option Value)) :=
  if i + 1 < L.length then
    match i with
    | 0 => some ((L.set 0 (some v)).set 1 none)
    | j + 1 => match L[j]? with
      | some (some (.long _)) => none
      | some (some (.double _)) => none
      | _ => some ((L.set (j + 1) (some v)).set (j + 2) none)
  else none
def ms_args : List Value → List (Option Value)
  | [] => []
  | .long x :: vs => some (.long x) :: none :: ms_args vs
  | v :: vs => some v :: ms_args vs
def ms_init (vs : List Value) (n : Nat) : List (Option Value) := ms_args vs ++ List.replicate (n - (ms_args vs).length) none
def ms_cmp (c : ClassFile.Cond) (x y : Int32) : Prop := match c with
  | .eq => x = y
  | .ne => ¬ x = y
  | .lt => x < y
  | .ge => y ≤ x
  | .gt => y < x
  | .le => x ≤ y
def ms_cmpD (c : ClassFile.Cond) (x y : Int32) : Decidable (ms_cmp c x y) := match c with
  | .eq => inferInstanceAs (Decidable (x = y))
  | .ne => inferInstanceAs (Decidable (¬ x = y))
  | .lt => inferInstanceAs (Decidable (x < y))
  | .ge => inferInstanceAs (Decidable (y ≤ x))
  | .gt => inferInstanceAs (Decidable (y < x))
  | .le => inferInstanceAs (Decidable (x ≤ y))
def ms_go (pc : Nat) (off : Int) (K : Nat → Option ms_Rs) : Option ms_Rs := match (pc : Int) + off with
  | .ofNat t => K t
  | _ => none
/-- does a value fit a field of that descriptor -/
def ms_fit (d : String) (v : Value) : Bool := match v with
  | .int _ => d == "I"
  | .ref _ => d != "I"
  | _ => false
def ms_one (v : Value) : Bool := match v with
  | .long _ => false
  | .double _ => false
  | _ => true
def ms_get (h : List ms_C) (a : Nat) (ci k : Nat) : Option Value := match h[a]? with
  | some (.inl (cj, fs)) => if cj = ci then fs[k]? else none
  | _ => none
def ms_iat (i : Int32) (n : Nat) : Option Nat := if i < 0 ∨ n ≤ i.toNatClampNeg then none else some i.toNatClampNeg
def ms_lens : Instr → Nat
  | .bipush _ | .ldc _ | .iload _ | .lload _ | .aload _ | .istore _ | .lstore _ | .astore _ | .newarray _ => 2
  | .sipush _ | .ldc2_w _ | .ldc_w _ | .iinc _ _ | .goto _ | .ifCond _ _ | .if_icmp _ _ | .getfield _ | .putfield _ | .invokevirtual _ | .invokespecial _ | .invokestatic _ | .new _ | .anewarray _ => 3
  | _ => 1
def ms_nd (v : Value) : Bool := match v with
  | .double _ => false
  | _ => true
def ms_call (y pc : Nat) (K : Nat → List (Option Value) → List Value → List ms_C → Option ms_Rs) (CA : Nat → List (Option Value) → List ms_C → Option ms_Rs) (kind z : Nat) (L : List (Option Value)) (S : List Value) (h : List ms_C) : Option ms_Rs :=
  if S.length < ms_A z ∨ ms_F y < ms_F z + 1 ∨ ms_W y < 8 + (ms_L z + 11) + ms_W z ∨ 8 < ((S.drop (ms_A z)).map fun v => v.category).sum ∨ ms_L z < (ms_args (S.take (ms_A z)).reverse).length ∨ (S.take (ms_A z)).all ms_nd = false then none
  else match CA z (ms_init (S.take (ms_A z)).reverse (ms_L z)) h with
    | some (r, h') => K (pc + 3) L (r.toList ++ S.drop (ms_A z)) h'
    | none => none
def ms_bin (S : List Value) (f : Int32 → Int32 → Option (List Value → Option ms_Rs)) : Option ms_Rs := match S with
  | .int y :: .int x :: S => match f x y with
    | some g => g S
    | none => none
  | _ => none
def ms_step (sc : List Int32) (y pc : Nat) (K : Nat → List (Option Value) → List Value → List ms_C → Option ms_Rs) (CA : Nat → List (Option Value) → List ms_C → Option ms_Rs) (ins : Instr) (L : List (Option Value)) (S : List Value) (h : List ms_C) : Option ms_Rs :=
  match ins with
  | .iconst n => K (pc + 1) L (.int (Int32.ofInt n) :: S) h
  | .lconst n => K (pc + 1) L (.long (Int64.ofNat (n : Nat)) :: S) h
  | .bipush n => K (pc + 2) L (.int (Int8.ofInt n).toInt32 :: S) h
  | .sipush n => K (pc + 3) L (.int (Int16.ofInt n).toInt32 :: S) h
  | .ldc_w i => match ms_i (ms_O y) i with
    | some v => K (pc + 3) L (.int v :: S) h
    | none => none
  | .ldc2_w i => match ms_g (ms_O y) i with
    | some v => K (pc + 3) L (.long v :: S) h
    | none => none
  | .iload_n k => match L[(k : Nat)]? with
    | some (some (.int x)) => K (pc + 1) L (.int x :: S) h
    | _ => none
  | .iload k => match L[k]? with
    | some (some (.int x)) => K (pc + 2) L (.int x :: S) h
    | _ => none
  | .lload_n k => match L[(k : Nat)]? with
    | some (some (.long x)) => K (pc + 1) L (.long x :: S) h
    | _ => none
  | .lload k => match L[k]? with
    | some (some (.long x)) => K (pc + 2) L (.long x :: S) h
    | _ => none
  | .aload_n k => match L[(k : Nat)]? with
    | some (some (.ref x)) => K (pc + 1) L (.ref x :: S) h
    | some (some (.float x)) => K (pc + 1) L (.float x :: S) h
    | _ => none
  | .aload k => match L[k]? with
    | some (some (.ref x)) => K (pc + 2) L (.ref x :: S) h
    | some (some (.float x)) => K (pc + 2) L (.float x :: S) h
    | _ => none
  | .istore_n k => match S with
    | .int x :: S => match ms_set L (k : Nat) (.int x) with
      | some L => K (pc + 1) L S h
      | none => none
    | _ => none
  | .istore k => match S with
    | .int x :: S => match ms_set L k (.int x) with
      | some L => K (pc + 2) L S h
      | none => none
    | _ => none
  | .astore_n k => match S with
    | .ref x :: S => match ms_set L (k : Nat) (.ref x) with
      | some L => K (pc + 1) L S h
      | none => none
    | _ => none
  | .lstore_n k => match S with
    | .long x :: S => match ms_set2 L (k : Nat) (.long x) with
      | some L => K (pc + 1) L S h
      | none => none
    | _ => none
  | .lstore k => match S with
    | .long x :: S => match ms_set2 L k (.long x) with
      | some L => K (pc + 2) L S h
      | none => none
    | _ => none
  | .iinc k n => match L[k]? with
    | some (some (.int x)) => match ms_set L k (.int (x + Int32.ofInt n)) with
      | some L => K (pc + 3) L S h
      | none => none
    | _ => none
  | .iadd => ms_bin S fun a b => some fun S => K (pc + 1) L (.int (a + b) :: S) h
  | .isub => ms_bin S fun a b => some fun S => K (pc + 1) L (.int (a - b) :: S) h
  | .imul => ms_bin S fun a b => some fun S => K (pc + 1) L (.int (a * b) :: S) h
  | .idiv => ms_bin S fun a b => if b = 0 then none else some fun S => K (pc + 1) L (.int (a / b) :: S) h
  | .irem => ms_bin S fun a b => if b = 0 then none else some fun S => K (pc + 1) L (.int (a - a / b * b) :: S) h
  | .iand => ms_bin S fun a b => some fun S => K (pc + 1) L (.int (a &&& b) :: S) h
  | .ior => ms_bin S fun a b => some fun S => K (pc + 1) L (.int (a ||| b) :: S) h
  | .ishl => ms_bin S fun a b => some fun S => K (pc + 1) L (.int (a <<< (b &&& 31)) :: S) h
  | .ishr => ms_bin S fun a b => some fun S => K (pc + 1) L (.int (a >>> (b &&& 31)) :: S) h
  | .iushr => ms_bin S fun a b => some fun S => K (pc + 1) L (.int (a.toUInt32 >>> (b.toUInt32 &&& Int32.toUInt32 31)).toInt32 :: S) h
  | .ladd => match S with
    | .long b :: .long a :: S => K (pc + 1) L (.long (a + b) :: S) h
    | _ => none
  | .lmul => match S with
    | .long b :: .long a :: S => K (pc + 1) L (.long (a * b) :: S) h
    | _ => none
  | .ldiv => match S with
    | .long b :: .long a :: S => if b = 0 then none else K (pc + 1) L (.long (a / b) :: S) h
    | _ => none
  | .lrem => match S with
    | .long b :: .long a :: S => if b = 0 then none else K (pc + 1) L (.long (a - a / b * b) :: S) h
    | _ => none
  | .lcmp => match S with
    | .long b :: .long a :: S => K (pc + 1) L (.int (lg_cmp a b) :: S) h
    | _ => none
  | .i2l => match S with
    | .int a :: S => K (pc + 1) L (.long a.toInt64 :: S) h
    | _ => none
  | .l2i => match S with
    | .long a :: S => K (pc + 1) L (.int a.toInt32 :: S) h
    | _ => none
  | .i2c => match S with
    | .int a :: S => K (pc + 1) L (.int (a.toUInt32 % 65536).toInt32 :: S) h
    | _ => none
  | .dup => match S with
    | a :: S => if ms_one a then K (pc + 1) L (a :: a :: S) h else none
    | _ => none
  | .dup2 => match S with
    | a :: b :: S => if ms_one a && ms_one b then K (pc + 1) L (a :: b :: a :: b :: S) h else none
    | _ => none
  | .pop => match S with
    | a :: S => if ms_one a then K (pc + 1) L S h else none
    | _ => none
  | .goto o => ms_go pc o fun t => K t L S h
  | .ifCond c o => match S with
    | .int x :: S => ms_go pc o fun t => match ms_cmpD c x 0 with
      | .isTrue _ => K t L S h
      | .isFalse _ => K (pc + 3) L S h
    | _ => none
  | .if_icmp c o => match S with
    | .int b :: .int a :: S => ms_go pc o fun t => match ms_cmpD c a b with
      | .isTrue _ => K t L S h
      | .isFalse _ => K (pc + 3) L S h
    | _ => none
  | .tableswitch d lo hi os => match S with
    | .int x :: S => if x.toInt < lo ∨ hi < x.toInt then ms_go pc d fun t => K t L S h
      else match os[(x.toInt - lo).toNat]? with
        | some o => ms_go pc o fun t => K t L S h
        | none => none
    | _ => none
  | .lookupswitch d ps => match S with
    | .int x :: S => if (ps.toList.zip (ps.toList.drop 1)).all (fun (a, next) => a.1 < next.1) = true then ms_go pc (Op.lookupswitch.offset ps.toList d x.toInt) fun t => K t L S h else none
    | _ => none
  | .getfield i => match S with
    | .ref a :: S => match ms_f (ms_O y) i with
      | some (ci, k) => match ms_get h a ci k with
        | some v => K (pc + 3) L (v :: S) h
        | none => none
      | none => none
    | _ => none
  | .putfield i => match S with
    | v :: .ref a :: S => match ms_f (ms_O y) i with
      | some (ci, k) => match vwCl[ci]?, h[a]? with
        | some (C, T, N), some (.inl (cj, fs)) => if cj = ci ∧ k < N ∧ k < fs.length ∧ ms_fit (T k).2.2.1 v = true ∧ ((T k).2.2.2 = false ∨ ((ms_Y y).name = "<init>" ∧ (T k).1 = ms_cn (ms_O y))) then K (pc + 3) L S (h.set a (.inl (ci, fs.set k v))) else none
        | _, _ => none
      | none => none
    | _ => none
  | .iaload => match S with
    | .int i :: .ref a :: S => match h[a]? with
      | some (.inr (.inl (false, l))) => match ms_iat i l.length with
        | some j => K (pc + 1) L (.int (l.getD j 0) :: S) h
        | none => none
      | _ => none
    | .int i :: .float _ :: S => match ms_iat i sc.length with
      | some j => K (pc + 1) L (.int (sc.getD j 0) :: S) h
      | none => none
    | _ => none
  | .caload => match S with
    | .int i :: .ref a :: S => match h[a]? with
      | some (.inr (.inl (true, l))) => match ms_iat i l.length with
        | some j => K (pc + 1) L (.int (l.getD j 0) :: S) h
        | none => none
      | _ => none
    | _ => none
  | .iastore => match S with
    | .int x :: .int i :: .ref a :: S => match h[a]? with
      | some (.inr (.inl (false, l))) => match ms_iat i l.length with
        | some j => K (pc + 1) L S (h.set a (.inr (.inl (false, l.set j x))))
        | none => none
      | _ => none
    | _ => none
  | .castore => match S with
    | .int x :: .int i :: .ref a :: S => match h[a]? with
      | some (.inr (.inl (true, l))) => match ms_iat i l.length with
        | some j => K (pc + 1) L S (h.set a (.inr (.inl (true, l.set j (vp_nar .char x)))))
        | none => none
      | _ => none
    | _ => none
  | .aaload => match S with
    | .int i :: .ref a :: S => match h[a]? with
      | some (.inr (.inr l)) => match ms_iat i l.length with
        | some j => match l.getD j none with
          | some q => K (pc + 1) L (.ref q :: S) h
          | none => none
        | none => none
      | _ => none
    | _ => none
  | .aastore => match S with
    | .ref q :: .int i :: .ref a :: S => match h[a]?, h[q]? with
      | some (.inr (.inr l)), some (.inl (4, _)) => match ms_iat i l.length with
        | some j => K (pc + 1) L S (h.set a (.inr (.inr (l.set j (some q)))))
        | none => none
      | _, _ => none
    | _ => none
  | .arraylength => match S with
    | .ref a :: S => match h[a]? with
      | some (.inr (.inl (_, l))) => K (pc + 1) L (.int (Int32.ofNat l.length) :: S) h
      | some (.inr (.inr l)) => K (pc + 1) L (.int (Int32.ofNat l.length) :: S) h
      | _ => none
    | .float _ :: S => K (pc + 1) L (.int (Int32.ofNat sc.length) :: S) h
    | _ => none
  | .newarray t => match S with
    | .int n :: S => if n < 0 ∨ 1000 < n.toNatClampNeg then none else match t with
      | .int => K (pc + 2) L (.ref h.length :: S) (h ++ [.inr (.inl (false, List.replicate n.toNatClampNeg 0))])
      | .char => K (pc + 2) L (.ref h.length :: S) (h ++ [.inr (.inl (true, List.replicate n.toNatClampNeg 0))])
      | _ => none
    | _ => none
  | .anewarray i => match S with
    | .int n :: S => if n < 0 ∨ 1000 < n.toNatClampNeg ∨ ms_n (ms_O y) i ≠ some 4 then none
      else K (pc + 3) L (.ref h.length :: S) (h ++ [.inr (.inr (List.replicate n.toNatClampNeg none))])
    | _ => none
  | .new i => match ms_n (ms_O y) i with
    | some ci => K (pc + 3) L (.ref h.length :: S) (h ++ [.inl (ci, ms_d ci)])
    | none => none
  | .invokevirtual i => match ms_c (ms_O y) i with
    | some (z, 0) => match S[ms_A z - 1]? with
      | some (.ref a) => match h[a]? with
        | some (.inl (ci, _)) => if ci = ms_O z then ms_call y pc K CA 0 z L S h else none
        | _ => none
      | _ => none
    | _ => none
  | .invokestatic i => match ms_c (ms_O y) i with
    | some (z, 1) => ms_call y pc K CA 1 z L S h
    | some (z, 3) => ms_call y pc K CA 3 z L S h
    | some (_, 5) => match S with
      | .int b :: .int a :: S => if 1 ≤ ms_F y ∧ (S.map fun v => v.category).sum + 13 ≤ ms_W y then K (pc + 3) L (.int (if a < b then b else a) :: S) h else none
      | _ => none
    | some (_, 6) => match S with
      | .int b :: .int a :: S => if 1 ≤ ms_F y ∧ (S.map fun v => v.category).sum + 13 ≤ ms_W y then K (pc + 3) L (.int (if b < a then b else a) :: S) h else none
      | _ => none
    | _ => none
  | .invokespecial i => match ms_c (ms_O y) i with
    | some (_, 4) => match S with
      | [.ref _] => if 1 ≤ ms_F y ∧ 12 ≤ ms_W y then K (pc + 3) L [] h else none
      | _ => none
    | some (z, 2) => match S[ms_A z - 1]? with
      | some (.ref _) => ms_call y pc K CA 2 z L S h
      | _ => none
    | _ => none
  | .ireturn => match S with
    | [.int x] => if ms_R y = some .int ∨ (ms_R y = some .boolean ∧ (x = 0 ∨ x = 1)) then some (some (.int x), h) else none
    | _ => none
  | .return_ => match S with
    | [] => if ms_R y = none then some (none, h) else none
    | _ => none
  | _ => none
def ms_lenok (ins : Instr) (len : Nat) : Bool := match ins with
  | .tableswitch .. => true
  | .lookupswitch .. => true
  | _ => len == ms_lens ins
def ms_run (sc : List Int32) : Nat → Nat → Nat → List (Option Value) → List Value → List ms_C → Option ms_Rs
  | 0, _, _, _, _, _ => none
  | f + 1, y, pc, L, S, h => match decode (ms_B y) pc with
    | .ok (ins, len) => if ms_lenok ins len = true then ms_step sc y pc (fun pc L S h => ms_run sc f y pc L S h) (fun z L h => ms_run sc f z 0 L [] h) ins L S h else none
    | .error _ => none
end
section
-- what the tables' rows are worth, by their places in the Statement's lists
def lw_good : List Cond := lw_tbl.filter goodWord
theorem ms_good {ws : List Cond} (h : ∀ w ∈ ws, w ∈ lw_good) : GoodIn lw_good ws := fun w hw => ⟨h w hw, good_of_word (List.mem_filter.mp (h w hw)).2⟩
theorem ms_in {α : Type} {l : List α} {f : α → Cond} (is : List Nat) (h : l.map (fun a => some (f a)) = is.map (fun i => lw_tbl[i]?)) (hg : ∀ a, goodWord (f a) = true) : ∀ a ∈ l, f a ∈ lw_good := by
  intro a ha
  have h1 : some (f a) ∈ l.map (fun a => some (f a)) := List.mem_map_of_mem ha
  rw [h] at h1
  obtain ⟨i, -, hi⟩ := List.mem_map.mp h1
  exact List.mem_filter.mpr ⟨List.mem_of_getElem? hi, hg a⟩
theorem ms_inT {α : Type} {l : List α} {f : α → Cond} (is : List Nat) (h : l.map (fun a => some (f a)) = is.map (fun i => lw_tbl[i]?)) : ∀ a ∈ l, f a ∈ lw_tbl := by
  intro a ha
  have h1 : some (f a) ∈ l.map (fun a => some (f a)) := List.mem_map_of_mem ha
  rw [h] at h1
  obtain ⟨i, -, hi⟩ := List.mem_map.mp h1
  exact List.mem_of_getElem? hi
theorem ms_look {α : Type} {l : List ((Nat × Nat) × α)} {k : Nat × Nat} {v : α} (h : l.lookup k = some v) : (k, v) ∈ l := by
  induction l with
  | nil => simp at h
  | cons q l ih =>
    obtain ⟨k', v'⟩ := q
    rw [List.lookup_cons] at h
    by_cases hk : k == k'
    · rw [hk] at h
      have := eq_of_beq hk
      subst this
      cases h
      exact List.mem_cons_self
    · rw [show (k == k') = false by simpa using hk] at h
      exact List.mem_cons_of_mem _ (ih h)
set_option maxRecDepth 1000000 in
set_option maxHeartbeats 4000000 in
theorem ms_zcode : (List.range 132).map (fun z => some (Cond.code (ms_Y z) (ms_B z) (ms_L z) (ms_R z))) = [161, 380, 384, 391, 395, 399, 124, 283, 287, 351, 51, 212, 224, 232, 236, 240, 244, 144, 420, 432, 438, 69, 174, 181, 228, 254, 262, 266, 275, 292, 296, 300, 305, 310, 314, 319, 334, 338, 368, 372, 478, 484, 43, 177, 207, 216, 220, 250, 258, 271, 279, 326, 330, 342, 347, 355, 359, 364, 376, 403, 407, 411, 416, 424, 428, 442, 446, 450, 459, 462, 467, 470, 488, 492, 496, 502, 507, 511, 515, 519, 587, 592, 596, 600, 604, 608, 612, 616, 624, 628, 632, 637, 641, 645, 649, 653, 657, 662, 666, 670, 674, 678, 682, 686, 690, 694, 698, 702, 706, 711, 715, 720, 724, 728, 733, 737, 741, 745, 749, 753, 757, 761, 765, 769, 774, 778, 786, 790, 794, 798, 802, 453].map (fun i => lw_tbl[i]?) := rfl
def ms_il10 : List Nat := [0, 1, 2, 3, 4, 5, 6, 7, 8, 9]
set_option maxRecDepth 1000000 in
set_option maxHeartbeats 4000000 in
theorem ms_zini : ms_il10.map (fun o => some (Cond.initialized (ms_cn o))) = [36, 33, 31, 35, 32, 30, 37, 29, 34, 38].map (fun i => lw_tbl[i]?) := rfl
def ms_instl : List Nat := [0, 1, 2, 3, 4, 5, 6, 7, 8, 9, 10, 11, 12, 13, 14, 15, 16, 17, 18, 19, 20, 21, 22, 23, 24, 25, 26, 27, 28, 29, 30, 31, 32, 33, 34, 35, 36, 37, 38, 39, 40, 41, 42, 44, 45, 46, 47, 48, 49, 50, 51, 52, 53, 54, 55, 56, 57, 58, 59, 60, 61, 62, 63, 64, 65, 66, 67, 70, 72, 73, 74, 75, 76, 77, 78, 79, 80, 82, 83, 84, 85, 86, 87, 88, 89, 90, 91, 92, 93, 94, 95, 96, 97, 98, 99, 100, 101, 102, 103, 104, 105, 106, 107, 108, 109, 110, 111, 112, 113, 114, 115, 116, 117, 118, 119, 120, 121, 122, 123, 125, 126, 127, 128, 129, 130]
set_option maxRecDepth 1000000 in
set_option maxHeartbeats 4000000 in
theorem ms_zinst : ms_instl.map (fun z => some (Cond.instanceMethod (ms_Y z))) = [160, 378, 382, 389, 393, 397, 123, 281, 285, 349, 50, 210, 222, 230, 234, 238, 242, 143, 418, 430, 436, 68, 172, 179, 226, 252, 260, 264, 273, 290, 294, 298, 303, 308, 312, 317, 332, 336, 366, 370, 476, 482, 42, 205, 214, 218, 248, 256, 269, 277, 324, 328, 340, 345, 353, 357, 362, 374, 401, 405, 410, 414, 422, 426, 440, 444, 449, 465, 486, 490, 494, 501, 506, 510, 514, 518, 585, 594, 598, 603, 607, 611, 615, 622, 626, 631, 636, 640, 644, 647, 652, 655, 661, 665, 669, 673, 677, 681, 684, 688, 693, 696, 700, 704, 709, 713, 719, 723, 726, 732, 736, 739, 743, 747, 751, 755, 760, 763, 767, 776, 785, 789, 792, 796, 800].map (fun i => lw_tbl[i]?) := rfl
def ms_stal : List Nat := [43, 68, 69, 71, 81, 124, 131]
set_option maxRecDepth 1000000 in
set_option maxHeartbeats 4000000 in
theorem ms_zsta : ms_stal.map (fun z => some (Cond.static (ms_Y z))) = [176, 458, 461, 469, 591, 773, 452].map (fun i => lw_tbl[i]?) := rfl
def ms_sell : List Nat := [1, 2, 3, 4, 5, 7, 8, 9, 11, 12, 13, 14, 15, 16, 18, 19, 20, 22, 23, 24, 25, 26, 27, 28, 29, 30, 31, 32, 33, 34, 35, 36, 37, 38, 39, 40, 41, 44, 45, 46, 47, 48, 49, 50, 51, 52, 53, 54, 55, 56, 57, 58, 59, 60, 61, 62, 63, 64, 65, 66, 67, 70, 72, 73, 74, 76, 77, 78, 79, 80, 82, 83, 84, 85, 86, 87, 88, 89, 90, 91, 92, 93, 94, 95, 96, 97, 98, 99, 100, 101, 102, 103, 104, 105, 106, 107, 108, 109, 110, 111, 112, 113, 114, 115, 116, 117, 118, 119, 120, 121, 122, 123, 125, 126, 127, 128, 129, 130]
set_option maxRecDepth 1000000 in
set_option maxHeartbeats 4000000 in
theorem ms_zsel : ms_sell.map (fun z => some (Cond.selects (ms_Y z).cls (ms_Y z) (ms_Y z))) = [379, 383, 390, 394, 398, 282, 286, 350, 211, 223, 231, 235, 239, 243, 419, 431, 437, 173, 180, 227, 253, 261, 265, 274, 291, 295, 299, 304, 309, 313, 318, 333, 337, 367, 371, 477, 483, 206, 215, 219, 249, 257, 270, 278, 325, 329, 341, 346, 354, 358, 363, 375, 402, 406, 0, 415, 423, 427, 441, 445, 1, 466, 487, 491, 495, 2, 3, 4, 5, 586, 595, 599, 6, 7, 8, 9, 623, 627, 10, 11, 12, 13, 648, 14, 656, 15, 16, 17, 18, 19, 20, 685, 689, 21, 697, 701, 705, 710, 714, 22, 23, 727, 24, 25, 740, 744, 748, 752, 756, 26, 764, 768, 777, 27, 28, 793, 797, 801].map (fun i => lw_tbl[i]?) := rfl
def ms_mll : List ((Nat × Nat) × Nat) := [((7, 9), 42), ((5, 9), 10), ((5, 18), 21), ((5, 28), 6), ((1, 21), 21), ((5, 40), 17), ((5, 47), 0), ((5, 52), 22), ((5, 56), 23), ((7, 13), 44), ((5, 60), 43), ((5, 63), 11), ((7, 18), 45), ((7, 23), 46), ((5, 71), 12), ((2, 19), 24), ((2, 27), 13), ((2, 31), 14), ((2, 35), 15), ((2, 47), 16), ((2, 39), 22), ((2, 43), 23), ((7, 27), 47), ((5, 81), 25), ((7, 31), 48), ((5, 89), 26), ((5, 102), 27), ((7, 36), 49), ((5, 112), 28), ((7, 40), 50), ((5, 121), 7), ((1, 26), 8), ((1, 29), 25), ((5, 124), 29), ((4, 64), 30), ((4, 68), 31), ((4, 76), 27), ((4, 72), 32), ((4, 79), 26), ((4, 82), 33), ((4, 50), 34), ((4, 54), 28), ((4, 85), 35), ((7, 44), 51), ((7, 48), 52), ((5, 130), 36), ((5, 133), 37), ((7, 53), 53), ((5, 137), 33), ((7, 57), 54), ((5, 141), 9), ((7, 61), 55), ((7, 65), 56), ((5, 145), 30), ((7, 69), 57), ((5, 149), 38), ((5, 152), 39), ((7, 73), 58), ((5, 155), 1), ((0, 24), 2), ((0, 43), 25), ((0, 28), 29), ((0, 32), 39), ((0, 36), 3), ((0, 39), 4), ((0, 50), 5), ((7, 77), 59), ((7, 81), 60), ((5, 162), 61), ((5, 166), 35), ((7, 85), 62), ((5, 170), 18), ((7, 89), 63), ((7, 93), 64), ((5, 173), 19), ((3, 28), 30), ((3, 37), 20), ((7, 97), 65), ((7, 101), 66), ((5, 176), 67), ((5, 180), 131), ((5, 185), 68), ((5, 188), 69), ((7, 106), 70), ((5, 199), 71), ((5, 202), 40), ((4, 92), 36), ((4, 95), 37), ((5, 205), 41), ((7, 110), 72), ((7, 114), 73), ((7, 118), 74), ((5, 216), 34), ((7, 12), 75), ((6, 53), 76), ((6, 56), 77), ((6, 60), 78), ((6, 64), 79), ((7, 17), 80), ((6, 71), 81), ((7, 22), 82), ((7, 26), 83), ((6, 101), 84), ((6, 97), 85), ((6, 81), 86), ((6, 91), 87), ((7, 30), 88), ((7, 35), 89), ((6, 136), 90), ((6, 141), 91), ((6, 123), 92), ((6, 120), 93), ((7, 39), 94), ((6, 144), 95), ((7, 43), 96), ((6, 149), 97), ((6, 152), 98), ((6, 132), 99), ((6, 126), 100), ((6, 129), 101), ((6, 155), 102), ((7, 47), 103), ((7, 52), 104), ((6, 158), 105), ((7, 56), 106), ((7, 60), 107), ((7, 64), 108), ((7, 68), 109), ((7, 72), 110), ((6, 166), 111), ((6, 169), 112), ((7, 76), 113), ((6, 178), 114), ((6, 172), 115), ((7, 80), 116), ((7, 84), 117), ((7, 88), 118), ((7, 92), 119), ((7, 96), 120), ((6, 181), 121), ((7, 100), 122), ((7, 105), 123), ((6, 188), 124), ((7, 109), 125), ((6, 200), 126), ((6, 203), 127), ((7, 113), 128), ((7, 117), 129), ((7, 121), 130)]
set_option maxRecDepth 1000000 in
set_option maxHeartbeats 4000000 in
theorem ms_zml : ms_mll.map (fun q => some (Cond.methodLink (ms_cn q.1.1) q.1.2 (ms_Y q.2))) = [41, 49, 67, 122, 131, 142, 159, 171, 178, 204, 208, 209, 213, 217, 221, 225, 229, 233, 237, 241, 245, 246, 247, 251, 255, 259, 263, 268, 272, 276, 280, 284, 288, 289, 293, 297, 301, 302, 306, 307, 311, 315, 316, 323, 327, 331, 335, 339, 343, 344, 348, 352, 356, 360, 361, 365, 369, 373, 377, 381, 385, 386, 387, 388, 392, 396, 400, 404, 408, 412, 413, 417, 421, 425, 429, 434, 435, 439, 443, 447, 451, 457, 460, 464, 468, 475, 479, 480, 481, 485, 489, 493, 497, 500, 504, 508, 512, 516, 584, 590, 593, 597, 601, 605, 609, 613, 621, 625, 629, 634, 638, 642, 646, 650, 654, 659, 663, 667, 671, 675, 679, 683, 687, 691, 695, 699, 703, 708, 712, 717, 721, 725, 730, 734, 738, 742, 746, 750, 754, 758, 762, 766, 772, 775, 783, 787, 791, 795, 799].map (fun i => lw_tbl[i]?) := rfl
def ms_obl : List (Nat × Nat) := [(5, 1), (2, 3), (4, 3), (1, 1), (3, 3), (0, 3), (6, 1)]
set_option maxRecDepth 1000000 in
set_option maxHeartbeats 4000000 in
theorem ms_zob : ms_obl.map (fun q => some (Cond.methodLink (ms_cn q.1) q.2 Lib.objectInit)) = [44, 52, 70, 125, 145, 162, 503].map (fun i => lw_tbl[i]?) := rfl
def ms_nel : List ((Nat × Nat) × Nat) := [((4, 46), 43)]
set_option maxRecDepth 1000000 in
set_option maxHeartbeats 4000000 in
theorem ms_zmx : [some (Cond.static Lib.Math.max.name), some (Cond.static Lib.Math.min.name), some (Cond.initialized "java/lang/Math"), some (Cond.code Lib.Math.max.name Lib.Math.max.code 2 (some .int)), some (Cond.code Lib.Math.min.name Lib.Math.min.code 2 (some .int))] = [127, 321, 34, 128, 322].map (fun i => lw_tbl[i]?) := rfl
def ms_maxl : List (Nat × Nat) := [(1, 7), (4, 58), (3, 22), (5, 191)]
set_option maxRecDepth 1000000 in
set_option maxHeartbeats 4000000 in
theorem ms_zmax : ms_maxl.map (fun q => some (Cond.methodLink (ms_cn q.1) q.2 Lib.Math.max.name)) = [126, 267, 433, 463].map (fun i => lw_tbl[i]?) := rfl
def ms_minl : List (Nat × Nat) := [(4, 89)]
set_option maxRecDepth 1000000 in
set_option maxHeartbeats 4000000 in
theorem ms_zmin : ms_minl.map (fun q => some (Cond.methodLink (ms_cn q.1) q.2 Lib.Math.min.name)) = [320].map (fun i => lw_tbl[i]?) := rfl
set_option maxRecDepth 1000000 in
set_option maxHeartbeats 4000000 in
theorem ms_zne : ms_nel.map (fun q => some (Cond.methodLinkNest (ms_cn q.1.1) q.1.2 (ms_Y q.2) "MayorsChair")) = [175].map (fun i => lw_tbl[i]?) := rfl
def ms_fT (ci k : Nat) : String × String × String × Bool := match vwCl[ci]? with
  | some q => q.2.1 k
  | none => ("", "", "", false)
set_option maxRecDepth 1000000 in
set_option maxHeartbeats 4000000 in
theorem ms_zfl : ms_fl.map (fun q => some (Cond.fieldLink (ms_cn q.1.1) q.1.2 (ms_fT q.2.1 q.2.2).1 (ms_fT q.2.1 q.2.2).2.1 (ms_fT q.2.1 q.2.2).2.2.1)) = [53, 54, 55, 56, 71, 72, 73, 74, 75, 76, 77, 78, 79, 80, 81, 82, 83, 84, 85, 86, 87, 88, 89, 90, 91, 92, 93, 94, 95, 132, 133, 134, 146, 147, 148, 149, 163, 164, 165, 182, 183, 184, 185, 186, 187, 188, 520, 521, 522, 523, 524, 525, 526, 527, 528, 529, 530, 531, 532, 533, 534, 535, 536, 537, 538, 539, 540].map (fun i => lw_tbl[i]?) := rfl
set_option maxRecDepth 1000000 in
set_option maxHeartbeats 4000000 in
theorem ms_zgl : ms_gl.map (fun q => some (Cond.constantLong (ms_cn q.1.1) q.1.2 q.2)) = [471, 472, 473, 474, 588, 589, 617, 618, 619, 620, 633, 658, 707, 716, 729, 770, 771, 779, 780, 781, 782].map (fun i => lw_tbl[i]?) := rfl
set_option maxRecDepth 1000000 in
set_option maxHeartbeats 4000000 in
theorem ms_zil : ms_il.map (fun q => some (Cond.constant (ms_cn q.1.1) q.1.2 q.2)) = [454, 455, 456].map (fun i => lw_tbl[i]?) := rfl
set_option maxRecDepth 1000000 in
set_option maxHeartbeats 4000000 in
theorem ms_znl : ms_nl.map (fun q => some (Cond.classLink (ms_cn q.1.1) q.1.2 (ms_cn q.2))) = [39, 47, 65, 120, 129, 140, 157, 498].map (fun i => lw_tbl[i]?) := rfl
def ms_szs : List Nat := [2, 2, 3, 3, 11, 7, 21]
set_option maxRecDepth 1000000 in
set_option maxHeartbeats 4000000 in
theorem ms_zins : (List.range 7).map (fun ci => some (Cond.instantiable (ms_cn ci) (ms_szs.getD ci 0))) = [158, 121, 48, 141, 66, 40, 499].map (fun i => lw_tbl[i]?) := rfl
set_option maxRecDepth 1000000 in
set_option maxHeartbeats 4000000 in
theorem ms_zar : [some (Cond.arrayClass .int), some (Cond.arrayClass .char), some (Cond.arrayOver (.object "MayorsChair$Town"))] = [119, 64, 130].map (fun i => lw_tbl[i]?) := rfl
set_option maxRecDepth 1000000 in
set_option maxHeartbeats 4000000 in
theorem ms_zoi : [some (Cond.instanceMethod Lib.objectInit), some (Cond.code Lib.objectInit ⟨#[0xb1]⟩ 1 none)] = [45, 46].map (fun i => lw_tbl[i]?) := rfl
end
section
-- the same, as what the walks ask for
theorem ms_getat {α : Type} {l : List α} {i : Nat} {a : α} (h : l[i]? = some a) : a ∈ l := List.mem_of_getElem? h
theorem gd_code {z : Nat} (h : z < 132) : Cond.code (ms_Y z) (ms_B z) (ms_L z) (ms_R z) ∈ lw_good := ms_in _ ms_zcode (fun _ => rfl) z (List.mem_range.mpr h)
def ms_zb (z : Nat) : Bool := ms_il10.contains (ms_O z) && decide (ms_cn (ms_O z) = (ms_Y z).cls)
theorem ms_zball : (List.range 132).all ms_zb = true := by decide +kernel
theorem gd_cls {z : Nat} (h : z < 132) : ms_cn (ms_O z) = (ms_Y z).cls ∧ Cond.initialized (ms_Y z).cls ∈ lw_good := by
  have h1 := List.all_eq_true.mp ms_zball z (List.mem_range.mpr h)
  simp only [ms_zb, Bool.and_eq_true, decide_eq_true_eq, List.contains_eq_mem] at h1
  refine ⟨h1.2, ?_⟩
  rw [← h1.2]
  exact ms_in _ ms_zini (fun _ => rfl) _ h1.1
def ms_pb (o : Nat) : Bool := plainName (ms_cn o) && decide (ms_cn o ≠ "java/lang/invoke/MethodHandle" ∧ ms_cn o ≠ "java/lang/invoke/VarHandle")
theorem ms_pball : ((List.range 7) ++ [9]).all ms_pb = true := by decide +kernel
theorem ms_olt : (List.range 132).all (fun z => ((List.range 7) ++ [9]).contains (ms_O z)) = true := by decide +kernel
theorem gd_plain {z : Nat} (h : z < 132) : plainName (ms_Y z).cls = true ∧ ((ms_Y z).cls ≠ "java/lang/invoke/MethodHandle" ∧ (ms_Y z).cls ≠ "java/lang/invoke/VarHandle") := by
  have h0 := List.all_eq_true.mp ms_olt z (List.mem_range.mpr h)
  have h1 := List.all_eq_true.mp ms_pball _ (by simpa using h0)
  simp only [ms_pb, Bool.and_eq_true, decide_eq_true_eq] at h1
  rw [(gd_cls h).1] at h1
  exact h1
def ms_cb (q : (Nat × Nat) × Nat × Nat) : Bool := match q with
  | ((o, i), z, k) => match k with
    | 0 => decide (z < 132) && ms_mll.contains ((o, i), z) && ms_instl.contains z && ms_sell.contains z && decide (0 < ms_A z) && decide ((parseMethodDescriptor (ms_Y z).desc).map (fun d => d.parameters.length) = some (ms_A z - 1)) && decide ((vwCl[ms_O z]?).map (fun r => r.1) = some (ms_Y z).cls)
    | 1 => decide (z < 132) && ms_mll.contains ((o, i), z) && ms_stal.contains z && decide ((parseMethodDescriptor (ms_Y z).desc).map (fun d => d.parameters.length) = some (ms_A z))
    | 2 => decide (z < 132) && ms_mll.contains ((o, i), z) && ms_instl.contains z && decide ((ms_Y z).name = "<init>") && decide (ms_R z = none) && decide (0 < ms_A z) && decide ((parseMethodDescriptor (ms_Y z).desc).map (fun d => d.parameters.length) = some (ms_A z - 1))
    | 3 => decide (z < 132) && ms_nel.contains ((o, i), z) && ms_stal.contains z && decide ((parseMethodDescriptor (ms_Y z).desc).map (fun d => d.parameters.length) = some (ms_A z))
    | 4 => ms_obl.contains (o, i)
    | 5 => ms_maxl.contains (o, i)
    | 6 => ms_minl.contains (o, i)
    | _ => false
theorem ms_call_all : ms_cl.all ms_cb = true := by decide +kernel
theorem ms_cok {o i : Nat} {q : Nat × Nat} (h : ms_c o i = some q) : ms_cb ((o, i), q) = true := List.all_eq_true.mp ms_call_all _ (ms_look h)
theorem gd_inst {z : Nat} (h : ms_instl.contains z = true) : Cond.instanceMethod (ms_Y z) ∈ lw_good := ms_in _ ms_zinst (fun _ => rfl) _ (by simpa using h)
theorem gd_sta {z : Nat} (h : ms_stal.contains z = true) : Cond.static (ms_Y z) ∈ lw_good := ms_in _ ms_zsta (fun _ => rfl) _ (by simpa using h)
theorem gd_sel {z : Nat} (h : ms_sell.contains z = true) : Cond.selects (ms_Y z).cls (ms_Y z) (ms_Y z) ∈ lw_good := ms_in (f := fun z => Cond.selects (ms_Y z).cls (ms_Y z) (ms_Y z)) _ ms_zsel (fun _ => rfl) _ (by simpa using h)
theorem gd_ml {o i z : Nat} (h : ms_mll.contains ((o, i), z) = true) : Cond.methodLink (ms_cn o) i (ms_Y z) ∈ lw_good := ms_in (f := fun q : (Nat × Nat) × Nat => Cond.methodLink (ms_cn q.1.1) q.1.2 (ms_Y q.2)) _ ms_zml (fun _ => rfl) ((o, i), z) (by simpa using h)
theorem gd_ne {o i z : Nat} (h : ms_nel.contains ((o, i), z) = true) : Cond.methodLinkNest (ms_cn o) i (ms_Y z) "MayorsChair" ∈ lw_tbl := ms_inT (f := fun q : (Nat × Nat) × Nat => Cond.methodLinkNest (ms_cn q.1.1) q.1.2 (ms_Y q.2) "MayorsChair") _ ms_zne ((o, i), z) (by simpa using h)
theorem gd_max {o i : Nat} (h : ms_maxl.contains (o, i) = true) : Cond.methodLink (ms_cn o) i Lib.Math.max.name ∈ lw_good := ms_in (f := fun q : Nat × Nat => Cond.methodLink (ms_cn q.1) q.2 Lib.Math.max.name) _ ms_zmax (fun _ => rfl) (o, i) (by simpa using h)
theorem gd_min {o i : Nat} (h : ms_minl.contains (o, i) = true) : Cond.methodLink (ms_cn o) i Lib.Math.min.name ∈ lw_good := ms_in (f := fun q : Nat × Nat => Cond.methodLink (ms_cn q.1) q.2 Lib.Math.min.name) _ ms_zmin (fun _ => rfl) (o, i) (by simpa using h)
theorem gd_mm : Cond.static Lib.Math.max.name ∈ lw_good ∧ Cond.static Lib.Math.min.name ∈ lw_good ∧ Cond.initialized "java/lang/Math" ∈ lw_good ∧ Cond.code Lib.Math.max.name Lib.Math.max.code 2 (some .int) ∈ lw_good ∧ Cond.code Lib.Math.min.name Lib.Math.min.code 2 (some .int) ∈ lw_good := by
  have h := ms_zmx
  simp only [List.map_cons, List.map_nil, List.cons.injEq, and_true] at h
  obtain ⟨a, b, c, d, e⟩ := h
  exact ⟨List.mem_filter.mpr ⟨List.mem_of_getElem? a.symm, rfl⟩, List.mem_filter.mpr ⟨List.mem_of_getElem? b.symm, rfl⟩, List.mem_filter.mpr ⟨List.mem_of_getElem? c.symm, rfl⟩, List.mem_filter.mpr ⟨List.mem_of_getElem? d.symm, rfl⟩, List.mem_filter.mpr ⟨List.mem_of_getElem? e.symm, rfl⟩⟩
theorem gd_ob {o i : Nat} (h : ms_obl.contains (o, i) = true) : Cond.methodLink (ms_cn o) i Lib.objectInit ∈ lw_good := ms_in (f := fun q : Nat × Nat => Cond.methodLink (ms_cn q.1) q.2 Lib.objectInit) _ ms_zob (fun _ => rfl) (o, i) (by simpa using h)
theorem gd_oi : Cond.instanceMethod Lib.objectInit ∈ lw_good ∧ Cond.code Lib.objectInit ⟨#[0xb1]⟩ 1 none ∈ lw_good := by
  have h1 : some (Cond.instanceMethod Lib.objectInit) ∈ [some (Cond.instanceMethod Lib.objectInit), some (Cond.code Lib.objectInit ⟨#[0xb1]⟩ 1 none)] := List.mem_cons_self
  have h2 : some (Cond.code Lib.objectInit ⟨#[0xb1]⟩ 1 none) ∈ [some (Cond.instanceMethod Lib.objectInit), some (Cond.code Lib.objectInit ⟨#[0xb1]⟩ 1 none)] := List.mem_cons_of_mem _ List.mem_cons_self
  rw [ms_zoi] at h1 h2
  obtain ⟨i, -, hi⟩ := List.mem_map.mp h1
  obtain ⟨j, -, hj⟩ := List.mem_map.mp h2
  exact ⟨List.mem_filter.mpr ⟨List.mem_of_getElem? hi, rfl⟩, List.mem_filter.mpr ⟨List.mem_of_getElem? hj, rfl⟩⟩
theorem gd_ar : Cond.arrayClass .int ∈ lw_good ∧ Cond.arrayClass .char ∈ lw_good ∧ Cond.arrayOver (.object "MayorsChair$Town") ∈ lw_tbl := by
  have h := ms_zar
  simp only [List.map_cons, List.map_nil, List.cons.injEq, and_true] at h
  exact ⟨List.mem_filter.mpr ⟨List.mem_of_getElem? h.1.symm, rfl⟩, List.mem_filter.mpr ⟨List.mem_of_getElem? h.2.1.symm, rfl⟩, List.mem_of_getElem? h.2.2.symm⟩
def ms_fb (q : (Nat × Nat) × Nat × Nat) : Bool := match vwCl[q.2.1]? with
  | some r => decide (q.2.2 < r.2.2)
  | none => false
theorem ms_fall : ms_fl.all ms_fb = true := by decide +kernel
theorem gd_fl {o i ci k : Nat} (h : ms_f o i = some (ci, k)) : ∃ r : vw_C, vwCl[ci]? = some r ∧ k < r.2.2 ∧ Cond.fieldLink (ms_cn o) i (r.2.1 k).1 (r.2.1 k).2.1 (r.2.1 k).2.2.1 ∈ lw_good := by
  have h1 := List.all_eq_true.mp ms_fall _ (ms_look h)
  have h2 := ms_in (f := fun q : (Nat × Nat) × Nat × Nat => Cond.fieldLink (ms_cn q.1.1) q.1.2 (ms_fT q.2.1 q.2.2).1 (ms_fT q.2.1 q.2.2).2.1 (ms_fT q.2.1 q.2.2).2.2.1) _ ms_zfl (fun _ => rfl) _ (ms_look h)
  unfold ms_fb at h1
  dsimp only at h1 h2
  unfold ms_fT at h2
  cases hv : vwCl[ci]? with
  | none => rw [hv] at h1; cases h1
  | some r =>
    rw [hv] at h1 h2
    exact ⟨r, rfl, of_decide_eq_true h1, h2⟩
theorem gd_g {o i : Nat} {v : Int64} (h : ms_g o i = some v) : Cond.constantLong (ms_cn o) i v ∈ lw_good := ms_in (f := fun q : (Nat × Nat) × Int64 => Cond.constantLong (ms_cn q.1.1) q.1.2 q.2) _ ms_zgl (fun _ => rfl) _ (ms_look h)
theorem gd_i {o i : Nat} {v : Int32} (h : ms_i o i = some v) : Cond.constant (ms_cn o) i v ∈ lw_good := ms_in (f := fun q : (Nat × Nat) × Int32 => Cond.constant (ms_cn q.1.1) q.1.2 q.2) _ ms_zil (fun _ => rfl) _ (ms_look h)
-- the classes, one by one
theorem ms_cls {P : Nat → vw_C → Prop} (h0 : P 0 (RX0, TX0, 2)) (h1 : P 1 (RX1, TX1, 2)) (h2 : P 2 (RX2, TX2, 3)) (h3 : P 3 (RX3, TX3, 3)) (h4 : P 4 (RX4, TX4, 11)) (h5 : P 5 (RX5, TX5, 7)) (h6 : P 6 (RX6, TX6, 21)) : ∀ (ci : Nat) (q : vw_C), vwCl[ci]? = some q → P ci q := by
  intro ci q hq
  match ci, hq with
  | 0, hq => cases hq; exact h0
  | 1, hq => cases hq; exact h1
  | 2, hq => cases hq; exact h2
  | 3, hq => cases hq; exact h3
  | 4, hq => cases hq; exact h4
  | 5, hq => cases hq; exact h5
  | 6, hq => cases hq; exact h6
  | k + 7, hq => simp [vwCl] at hq
theorem ms_clsz : ∀ (ci : Nat) (q : vw_C), vwCl[ci]? = some q → ms_cn ci = q.1 ∧ ms_szs.getD ci 0 = q.2.2 ∧ ci < 7 ∧ ms_il10.contains ci = true ∧ (ms_d ci).length = q.2.2 := by
  refine ms_cls ?_ ?_ ?_ ?_ ?_ ?_ ?_ <;> decide +kernel
theorem ms_nlt : ms_nl.all (fun q => decide (q.2 < 7)) = true := by decide +kernel
theorem gd_n {o i ci : Nat} (h : ms_n o i = some ci) : ∃ q : vw_C, vwCl[ci]? = some q ∧ Cond.classLink (ms_cn o) i q.1 ∈ lw_good ∧ Cond.instantiable q.1 q.2.2 ∈ lw_good ∧ Cond.initialized q.1 ∈ lw_good ∧ (ms_d ci).length = q.2.2 := by
  have h1 := of_decide_eq_true (List.all_eq_true.mp ms_nlt _ (ms_look h))
  have h2 := ms_in (f := fun q : (Nat × Nat) × Nat => Cond.classLink (ms_cn q.1.1) q.1.2 (ms_cn q.2)) _ ms_znl (fun _ => rfl) _ (ms_look h)
  dsimp only at h1 h2
  obtain ⟨q, hq⟩ : ∃ q : vw_C, vwCl[ci]? = some q := ⟨_, List.getElem?_eq_getElem (by simpa [vwCl] using h1)⟩
  obtain ⟨e1, e2, e3, e4, e5⟩ := ms_clsz ci q hq
  refine ⟨q, hq, by rw [← e1]; exact h2, ?_, ?_, e5⟩
  · rw [← e1, ← e2]
    exact ms_in (f := fun ci => Cond.instantiable (ms_cn ci) (ms_szs.getD ci 0)) _ ms_zins (fun _ => rfl) ci (List.mem_range.mpr h1)
  · rw [← e1]
    exact ms_in _ ms_zini (fun _ => rfl) ci (by simpa using e4)
def ms_layb (q : vw_C) : Bool := (List.range q.2.2).all (fun k => decide (u_lay q.1 q.2.1 k ∈ tables_1) && goodWord (u_lay q.1 q.2.1 k))
theorem ms_uws : ∀ (ci : Nat) (q : vw_C), vwCl[ci]? = some q → ∀ w ∈ u_ws q.1 q.2.1 q.2.2, w ∈ lw_good := by
  have key : ∀ (ci : Nat) (q : vw_C), vwCl[ci]? = some q → ms_layb q = true := by
    refine ms_cls ?_ ?_ ?_ ?_ ?_ ?_ ?_ <;> decide +kernel
  intro ci q hq w hw
  obtain ⟨k, hk, rfl⟩ := List.mem_map.mp hw
  have h := List.all_eq_true.mp (key ci q hq) k hk
  simp only [Bool.and_eq_true, decide_eq_true_eq] at h
  exact List.mem_filter.mpr ⟨List.mem_append_right _ h.1, h.2⟩
def ms_ty0 (ci : Nat) : Nat → FieldType := match ci with
  | 0 => tyX0
  | 1 => tyX1
  | 2 => tyX2
  | 3 => tyX3
  | 4 => tyX4
  | 5 => tyX5
  | _ => tyX6
theorem ms_tyk : ∀ (ci : Nat) (q : vw_C), vwCl[ci]? = some q → ∀ k, k < q.2.2 → parseFieldDescriptor (q.2.1 k).2.2.1 = some (ms_ty0 ci k) :=
  ms_cls tyX0_ok tyX1_ok tyX2_ok tyX3_ok tyX4_ok tyX5_ok tyX6_ok
theorem ms_nmk : ∀ (ci : Nat) (q : vw_C), vwCl[ci]? = some q → ∀ a, a < q.2.2 → ∀ b, b < q.2.2 → a ≠ b → (q.2.1 a).2.1 ≠ (q.2.1 b).2.1 :=
  ms_cls nmX0 nmX1 nmX2 nmX3 nmX4 nmX5 nmX6
def ms_isR (t : FieldType) : Bool := match t with
  | .array _ => true
  | .object _ => true
  | _ => false
theorem ms_kindk : ∀ (ci : Nat) (q : vw_C), vwCl[ci]? = some q → ∀ k, k < q.2.2 → (if (q.2.1 k).2.2.1 = "I" then decide (ms_ty0 ci k = .int) else ms_isR (ms_ty0 ci k)) = true := by
  refine ms_cls ?_ ?_ ?_ ?_ ?_ ?_ ?_ <;> decide +kernel
theorem ms_dflt : ∀ (ci : Nat) (q : vw_C), vwCl[ci]? = some q → ∀ k, k < q.2.2 → defaultValue (ms_ty0 ci k) = (ms_d ci).getD k .null := by
  refine ms_cls ?_ ?_ ?_ ?_ ?_ ?_ ?_ <;> decide +kernel
theorem ms_dval : ∀ (ci : Nat) (q : vw_C), vwCl[ci]? = some q → ∀ v ∈ ms_d ci, v = .null ∨ v = .int 0 := by
  refine ms_cls ?_ ?_ ?_ ?_ ?_ ?_ ?_ <;> decide +kernel
end
section
-- the small machine's cells and values as the machine's own
def ms_tv (base b : Nat) : Value → Value
  | .ref i => .ref (base + i)
  | .float _ => .ref b
  | v => v
def ms_te (base b : Nat) (dA : Nat → ClassId) : ms_C → va_E
  | .inl o => .inr (o.1, o.2.map (ms_tv base b))
  | .inr (.inl o) => .inl (dA (if o.1 then 1 else 0), o.2.length, .inl (fun j => o.2.getD j 0))
  | .inr (.inr l) => .inl (dA 2, l.length, .inr (.inr (.inr (.inr (fun j => (l.getD j none).map (fun i => base + i))))))
def ms_ws (base b : Nat) (dA : Nat → ClassId) (h : List ms_C) : va_W := h.mapIdx fun i c => (base + i, ms_te base b dA c)
def ms_tys (dA : Nat → ClassId) : List (ClassId × FieldType) := [(dA 0, .int), (dA 1, .char), (dA 2, .object "MayorsChair$Town")]
def ms_K (D : va_G) (dA : Nat → ClassId) (U : State) : Prop := va_K D vwCl (ms_tys dA) U ∧ va_AO "MayorsChair$Town" U ∧ ∀ q ∈ ms_nel, va_Nw (.methodLinkNest (ms_cn q.1.1) q.1.2 (ms_Y q.2) "MayorsChair") U
theorem ms_ws_get {base b : Nat} {dA : Nat → ClassId} {h : List ms_C} {a : Nat} {c : ms_C} (hc : h[a]? = some c) : (ms_ws base b dA h)[a]? = some (base + a, ms_te base b dA c) := by
  simp [ms_ws, List.getElem?_mapIdx, hc]
theorem ms_ws_set {base b : Nat} {dA : Nat → ClassId} {h : List ms_C} {a : Nat} {c : ms_C} : (ms_ws base b dA h).set a (base + a, ms_te base b dA c) = ms_ws base b dA (h.set a c) := by
  simp [ms_ws, List.mapIdx_set]
theorem ms_ws_app {base b : Nat} {dA : Nat → ClassId} {h : List ms_C} {c : ms_C} : ms_ws base b dA (h ++ [c]) = ms_ws base b dA h ++ [(base + h.length, ms_te base b dA c)] := by
  simp [ms_ws, List.mapIdx_append]
theorem ms_ws_inv {base b : Nat} {dA : Nat → ClassId} {h : List ms_C} {k : Nat} {q : Nat × va_E} (hq : (ms_ws base b dA h)[k]? = some q) : q.1 = base + k ∧ k < h.length := by
  simp only [ms_ws, List.getElem?_mapIdx, Option.map_eq_some_iff] at hq
  obtain ⟨c, hc, rfl⟩ := hq
  exact ⟨rfl, (List.getElem?_eq_some_iff.mp hc).1⟩
def ms_Ad (base : Nat) : Nat → Prop := fun q => base ≤ q
theorem ms_D {base b : Nat} {dA : Nat → ClassId} {h : List ms_C} : va_D (ms_Ad base) (ms_ws base b dA h) := by
  refine ⟨fun i j p q hp hq e => ?_, fun k q hq => ?_⟩
  · have h1 := (ms_ws_inv hp).1
    have h2 := (ms_ws_inv hq).1
    omega
  · have h1 := (ms_ws_inv hq).1
    show base ≤ q.1
    omega
def ms_cs : ms_C → Nat
  | .inl o => o.2.length
  | .inr (.inl o) => o.2.length
  | .inr (.inr l) => l.length
def ms_sz (h : List ms_C) : Nat := (h.map ms_cs).sum
theorem ms_sz_app (h : List ms_C) (c : ms_C) : ms_sz (h ++ [c]) = ms_sz h + ms_cs c := by simp [ms_sz]
theorem ms_sz_set {h : List ms_C} {a : Nat} {c d : ms_C} (hc : h[a]? = some c) (e : ms_cs d = ms_cs c) : ms_sz (h.set a d) = ms_sz h := by
  induction h generalizing a with
  | nil => simp at hc
  | cons x t ih =>
    cases a with
    | zero => simp at hc; subst hc; simp [ms_sz, e]
    | succ a => simp at hc; have := ih hc; simp [ms_sz] at this ⊢; omega
/-- the small heap h is the machine's heap from base on; n0, z0: cells and slots that stood at the method's start -/
def ms_Rel (base b : Nat) (dA : Nat → ClassId) (D : va_G) (n0 z0 : Nat) (h : List ms_C) (s : State) (H : Heap) (locs : List Loc) (cells slots : Nat) : Prop :=
  H.size = base + h.length ∧ h.length = n0 + cells ∧ s.heap.size = base + n0 ∧ ms_sz h = z0 + slots ∧ va_P D vwCl (ms_ws base b dA h) H ∧ va_S (ms_Ad base) s.heap H locs
def ms_lv (base b : Nat) (ls : Array Slot) (nL : Nat) (L : List (Option Value)) : Prop :=
  ls.size = nL ∧ lv_wf ls ∧ L.length = nL ∧ ∀ (i : Nat) (v : Value), L[i]? = some (some v) → ls[i]? = some (.val (ms_tv base b v))
theorem ms_lv.has {base b : Nat} {ls : Array Slot} {nL : Nat} {L : List (Option Value)} (h : ms_lv base b ls nL L) : ∃ l, lv_has ls nL l ∧ ∀ (i : Nat) (v : Value), L[i]? = some (some v) → (i, ms_tv base b v) ∈ l := by
  refine ⟨(List.range nL).filterMap (fun i => (L[i]?.bind id).map fun v => (i, ms_tv base b v)), ⟨h.1, h.2.1, fun q hq => ?_⟩, fun i v hv => ?_⟩
  · obtain ⟨i, -, hi⟩ := List.mem_filterMap.mp hq
    rw [Option.map_eq_some_iff] at hi
    obtain ⟨v, hv, rfl⟩ := hi
    refine h.2.2.2 i v ?_
    cases hL : L[i]? with
    | none => rw [hL] at hv; cases hv
    | some o => rw [hL] at hv; cases o with
      | none => cases hv
      | some w => cases hv; rfl
  · refine List.mem_filterMap.mpr ⟨i, List.mem_range.mpr ?_, by rw [hv]; rfl⟩
    rw [← h.2.2.1]
    exact (List.getElem?_eq_some_iff.mp hv).1
theorem ms_tv_cat (base b : Nat) (v : Value) : (ms_tv base b v).category = v.category := by cases v <;> rfl
theorem ms_lv.set1 {base b : Nat} {ls' : Array Slot} {nL i : Nat} {L L' : List (Option Value)} {v : Value} {l : List (Nat × Value)} (hn : L.length = nL) (hl : ∀ (i : Nat) (v : Value), L[i]? = some (some v) → (i, ms_tv base b v) ∈ l) (hs : ms_set L i v = some L')
    (h' : lv_has ls' nL ((i, ms_tv base b v) :: l.filter (fun q => !(q.1 == i) && !(q.1 + 1 == i && q.2.category == 2)))) : ms_lv base b ls' nL L' := by
  have key : L' = L.set i (some v) ∧ i < L.length ∧ ∀ j w, i = j + 1 → L[j]? = some (some w) → ¬ w.category = 2 := by
    unfold ms_set at hs
    split at hs
    · rename_i hlt
      cases i with
      | zero => simp at hs; exact ⟨hs.symm, hlt, fun j w e => by omega⟩
      | succ k =>
        dsimp only at hs
        split at hs
        · cases hs
        · cases hs
        · rename_i hno hno2
          refine ⟨(Option.some.inj hs).symm, hlt, fun j w e hw => ?_⟩
          have : k = j := by omega
          subst this
          cases w with
          | long x => exact absurd hw (hno x)
          | double x => exact absurd hw (hno2 x)
          | _ => simp [Value.category]
    · cases hs
  obtain ⟨rfl, hlt, hk⟩ := key
  refine ⟨h'.1, h'.2.1, by simpa using hn, fun j w hw => ?_⟩
  by_cases hj : i = j
  · subst hj
    rw [List.getElem?_set_self hlt] at hw
    cases hw
    exact h'.2.2 _ List.mem_cons_self
  · rw [List.getElem?_set_ne hj] at hw
    refine h'.2.2 (j, ms_tv base b w) (List.mem_cons_of_mem _ (List.mem_filter.mpr ⟨hl j w hw, ?_⟩))
    have h1 : ¬ j = i := fun e => hj e.symm
    simp only [Bool.and_eq_true, Bool.not_eq_true', beq_eq_false_iff_ne, ne_eq, h1, not_false_eq_true, true_and, Bool.and_eq_false_iff]
    by_cases h2 : j + 1 = i
    · right
      rw [ms_tv_cat]
      exact hk j w h2.symm hw
    · exact Or.inl h2
theorem ms_lv.set2 {base b : Nat} {ls' : Array Slot} {nL i : Nat} {L L' : List (Option Value)} {v : Value} {l : List (Nat × Value)} (hn : L.length = nL) (hl : ∀ (i : Nat) (v : Value), L[i]? = some (some v) → (i, ms_tv base b v) ∈ l) (hs : ms_set2 L i v = some L')
    (h' : lv_has ls' nL ((i, ms_tv base b v) :: l.filter (fun q => !(q.1 == i) && (!(q.1 == i + 1) && !(q.1 + 1 == i && q.2.category == 2))))) : ms_lv base b ls' nL L' := by
  have key : L' = (L.set i (some v)).set (i + 1) none ∧ i + 1 < L.length ∧ ∀ j w, i = j + 1 → L[j]? = some (some w) → ¬ w.category = 2 := by
    unfold ms_set2 at hs
    split at hs
    · rename_i hlt
      cases i with
      | zero => simp at hs; exact ⟨hs.symm, hlt, fun j w e => by omega⟩
      | succ k =>
        dsimp only at hs
        split at hs
        · cases hs
        · cases hs
        · rename_i hno hno2
          refine ⟨(Option.some.inj hs).symm, hlt, fun j w e hw => ?_⟩
          have : k = j := by omega
          subst this
          cases w with
          | long x => exact absurd hw (hno x)
          | double x => exact absurd hw (hno2 x)
          | _ => simp [Value.category]
    · cases hs
  obtain ⟨rfl, hlt, hk⟩ := key
  refine ⟨h'.1, h'.2.1, by simpa using hn, fun j w hw => ?_⟩
  by_cases hj1 : i + 1 = j
  · subst hj1
    rw [List.getElem?_set_self (by simpa using hlt)] at hw
    cases hw
  · rw [List.getElem?_set_ne hj1] at hw
    by_cases hj : i = j
    · subst hj
      rw [List.getElem?_set_self (by omega)] at hw
      cases hw
      exact h'.2.2 _ List.mem_cons_self
    · rw [List.getElem?_set_ne hj] at hw
      refine h'.2.2 (j, ms_tv base b w) (List.mem_cons_of_mem _ (List.mem_filter.mpr ⟨hl j w hw, ?_⟩))
      have h1 : ¬ j = i := fun e => hj e.symm
      have h3 : ¬ j = i + 1 := fun e => hj1 e.symm
      simp only [Bool.and_eq_true, Bool.not_eq_true', beq_eq_false_iff_ne, ne_eq, h1, h3, not_false_eq_true, true_and, Bool.and_eq_false_iff]
      by_cases h2 : j + 1 = i
      · right
        rw [ms_tv_cat]
        exact hk j w h2.symm hw
      · exact Or.inl h2
theorem ms_args_len (vs : List Value) (h : ∀ v ∈ vs, ∀ x, v ≠ .double x) (base b : Nat) : (lg_sl (vs.map (ms_tv base b))).length = (ms_args vs).length := by
  induction vs with
  | nil => rfl
  | cons v vs ih =>
    have ih := ih (fun w hw => h w (List.mem_cons_of_mem _ hw))
    have hv := h v List.mem_cons_self
    cases v with
    | double x => exact absurd rfl (hv x)
    | long x => simp [lg_sl, ms_tv, Value.category, ms_args] at ih ⊢; omega
    | _ => simp [lg_sl, ms_tv, Value.category, ms_args] at ih ⊢; omega
theorem ms_args_in (vs : List Value) (base b : Nat) (hd : ∀ v ∈ vs, ∀ x, v ≠ .double x) : ∀ (k i : Nat) (v : Value), (ms_args vs)[i]? = some (some v) → (k + i, ms_tv base b v) ∈ lv_args k (vs.map (ms_tv base b)) := by
  induction vs with
  | nil => intro k i v h; simp [ms_args] at h
  | cons w vs ih =>
    have ih := ih (fun w hw => hd w (List.mem_cons_of_mem _ hw))
    have hv := hd w List.mem_cons_self
    intro k i v h
    have one : ∀ (hc : w.category = 1) (ha : ms_args (w :: vs) = some w :: ms_args vs), (k + i, ms_tv base b v) ∈ lv_args k ((w :: vs).map (ms_tv base b)) := by
      intro hc ha
      rw [ha] at h
      rw [List.map_cons, lv_args, ms_tv_cat, hc]
      cases i with
      | zero => simp at h; subst h; exact List.mem_cons_self
      | succ i =>
        simp at h
        have := ih (k + 1) i v h
        exact List.mem_cons_of_mem _ (by simpa [Nat.add_assoc, Nat.add_comm 1 i] using this)
    cases w with
    | double x => exact absurd rfl (hv x)
    | long x =>
      rw [List.map_cons, lv_args, ms_tv_cat]
      simp only [ms_args] at h
      cases i with
      | zero => simp at h; subst h; exact List.mem_cons_self
      | succ i =>
        cases i with
        | zero => simp at h
        | succ i =>
          simp at h
          have := ih (k + 2) i v h
          exact List.mem_cons_of_mem _ (by simpa [Value.category, Nat.add_assoc, Nat.add_comm 2 i] using this)
    | _ => exact one rfl rfl
theorem ms_lv.init {base b n : Nat} {vs : List Value} (hd : ∀ v ∈ vs, ∀ x, v ≠ .double x) (hn : (ms_args vs).length ≤ n) : ms_lv base b ((lg_sl (vs.map (ms_tv base b)) ++ List.replicate (n - (lg_sl (vs.map (ms_tv base b))).length) Slot.unset).toArray) n (ms_init vs n) := by
  have hl := ms_args_len vs hd base b
  have h := lv_entry (vs.map (ms_tv base b)) (n := n) (by rw [hl]; exact hn)
  refine ⟨h.1, h.2.1, by simp [ms_init]; omega, fun i v hv => ?_⟩
  refine h.2.2 (i, ms_tv base b v) ?_
  unfold ms_init at hv
  by_cases hi : i < (ms_args vs).length
  · rw [List.getElem?_append_left hi] at hv
    have := ms_args_in vs base b hd 0 i v hv
    simpa using this
  · rw [List.getElem?_append_right (by omega)] at hv
    have := List.eq_of_mem_replicate (List.mem_of_getElem? hv)
    cases this
end
section
-- the small machine's step is the machine's
abbrev ms_KT : Type := Nat → List (Option Value) → List Value → List ms_C → Option ms_Rs
abbrev ms_CT : Type := Nat → List (Option Value) → List ms_C → Option ms_Rs
def ms_P (h h' : List ms_C) : Prop := h.length ≤ h'.length ∧ ms_sz h ≤ ms_sz h'
theorem ms_P.rf (h : List ms_C) : ms_P h h := ⟨Nat.le_refl _, Nat.le_refl _⟩
theorem ms_P.tr {a b c : List ms_C} (h : ms_P a b) (k : ms_P b c) : ms_P a c := ⟨Nat.le_trans h.1 k.1, Nat.le_trans h.2 k.2⟩
theorem ms_P.st {h h' : List ms_C} {a : Nat} {x y : ms_C} (hx : h[a]? = some x) (e : ms_cs y = ms_cs x) (k : ms_P (h.set a y) h') : ms_P h h' := by
  refine ⟨by simpa using k.1, ?_⟩
  have := k.2
  rw [ms_sz_set hx e] at this
  exact this
theorem ms_P.ap {h h' : List ms_C} {x : ms_C} (k : ms_P (h ++ [x]) h') : ms_P h h' := by
  have h1 := k.1
  have h2 := k.2
  rw [ms_sz_app] at h2
  rw [List.length_append] at h1
  exact ⟨by simp at h1; omega, by omega⟩
def ms_Xs (base b : Nat) (sc : List Int32) (U : State) : Prop := va_X b sc.length (fun j => sc.getD j 0) U U.heap ∧ b < base
/-- where a walk stands: the machine, the method y of class own, the tables' words, the classes, the room, the script -/
def ms_Ctx (p : Program) (R : Room) (s : State) (m : MethodId) (args : Array Value) (meth : Method) (c : Code) (y base b : Nat) (dA : Nat → ClassId) (D : va_G) (n0 z0 : Nat) (sc : List Int32) (h' : List ms_C) : Prop :=
  p.tables.exec = Jvm.exec ∧ c.code = ms_B y ∧ c.maxLocals = ms_L y ∧ s.vm.findClass (ms_cn (ms_O y)) = some m.cls ∧ (∀ w ∈ lw_good, w.before args s = true) ∧ ms_K D dA s ∧ ((ms_Y y).name = "<init>" → meth.name = "<init>") ∧ ms_F y ≤ R.frames ∧ ms_W y ≤ R.locals ∧ ms_Xs base b sc s ∧ h'.length ≤ n0 + R.cells ∧ ms_sz h' ≤ z0 + R.slots ∧ s.heap.size = base + n0
def ms_Go (p : Program) (l : Launch) (e : Env) (R : Room) (s : State) (m : MethodId) (args : Array Value) (below : List Frame) (meth : Method) (c : Code) (Q : State → Prop) (y base b : Nat) (dA : Nat → ClassId) (D : va_G) (n0 z0 : Nat) (pc : Nat) (L : List (Option Value)) (S : List Value) (h : List ms_C) : Prop :=
  ∀ (ls : Array Slot) (H : Heap) (locs : List Loc) (cells slots : Nat), ms_lv base b ls (ms_L y) L → ms_Rel base b dA D n0 z0 h s H locs cells slots → W p l e R s m args below meth c H locs cells slots Q (F0 m pc ls (S.map (ms_tv base b)))
section SOUND
variable {p : Program} {l : Launch} {e : Env} {R : Room} {s : State} {m : MethodId} {args : Array Value} {below : List Frame} {meth : Method} {c : Code} {Q : State → Prop} {y base b : Nat} {dA : Nat → ClassId} {D : va_G} {n0 z0 : Nat} {sc : List Int32} {r : Option Value} {h' : List ms_C} {K : ms_KT} {CA : ms_CT} {pc : Nat} {L : List (Option Value)} {S : List Value} {h : List ms_C}
theorem ms_go_some {off : Int} {k : Nat → Option ms_Rs} {z : ms_Rs} (e : ms_go pc off k = some z) : ∃ t : Nat, (pc : Int) + off = (t : Int) ∧ k t = some z := by
  unfold ms_go at e
  split at e
  · rename_i t ht
    exact ⟨t, ht, e⟩
  · cases e
theorem ms_iat_some {i : Int32} {n j : Nat} (e : ms_iat i n = some j) : vp_in i n ∧ i.toNatClampNeg = j := by
  unfold ms_iat at e
  split at e
  · cases e
  · rename_i hn
    exact ⟨hn, Option.some.inj e⟩
theorem ms_bin_some {f : Int32 → Int32 → Option (List Value → Option ms_Rs)} {z : ms_Rs} (e : ms_bin S f = some z) : ∃ (x y : Int32) (S1 : List Value) (g : List Value → Option ms_Rs), S = .int y :: .int x :: S1 ∧ f x y = some g ∧ g S1 = some z := by
  unfold ms_bin at e
  split at e
  · rename_i yy xx S1
    split at e
    · rename_i g hg
      exact ⟨xx, yy, S1, g, rfl, hg, e⟩
    · cases e
  · cases e
theorem ms_one_cat {v : Value} (hv : ms_one v = true) : (ms_tv base b v).category = 1 := by
  cases v <;> simp [ms_one] at hv <;> rfl
theorem ms_bound {H : Heap} {locs : List Loc} {cells slots : Nat} {g : JFrame} (k : H.size ≤ s.heap.size + cells → W p l e R s m args below meth c H locs cells slots Q g) : W p l e R s m args below meth c H locs cells slots Q g := by
  intro T hT X
  have h1 : T.heap.size ≤ s.heap.size + cells := X.same.2.2.1
  rw [hT] at h1
  exact k h1 T hT X
theorem ms_S0 {H : Heap} {locs : List Loc} (hS : va_S (ms_Ad base) s.heap H locs) : va_S (ms_Ad base) H H locs := ⟨Nat.le_refl _, fun _ _ _ => rfl, hS.2.2⟩
theorem ms_S1 {H H1 : Heap} {locs locs1 : List Loc} (hS : va_S (ms_Ad base) s.heap H locs) (h1 : va_S (ms_Ad base) H H1 locs1) : va_S (ms_Ad base) s.heap H1 locs1 :=
  ⟨Nat.le_trans hS.1 h1.1, fun q hq hA => (h1.2.1 q (Nat.lt_of_lt_of_le hq hS.1) hA).trans (hS.2.1 q hq hA), h1.2.2⟩

theorem so_iconst (C : ms_Ctx p R s m args meth c y base b dA D n0 z0 sc h') (hK : ∀ pc L S h, K pc L S h = some (r, h') → ms_P h h' ∧ ms_Go p l e R s m args below meth c Q y base b dA D n0 z0 pc L S h) {n : Int} (hd : decode (ms_B y) pc = .ok (.iconst n, 1)) (ee : ms_step sc y pc K CA (.iconst n) L S h = some (r, h')) : ms_P h h' ∧ ms_Go p l e R s m args below meth c Q y base b dA D n0 z0 pc L S h := by
  obtain ⟨hx, hb, hml, hown, hts, hK0, hin, hF, hW, hX, hrc, hrs, hs0⟩ := C
  obtain ⟨hp, hg⟩ := hK _ _ _ _ ee
  exact ⟨hp, fun ls H locs cells slots hl hr => lv_iconst hx hb hd rfl (hg ls H locs cells slots hl hr)⟩
theorem so_lconst (C : ms_Ctx p R s m args meth c y base b dA D n0 z0 sc h') (hK : ∀ pc L S h, K pc L S h = some (r, h') → ms_P h h' ∧ ms_Go p l e R s m args below meth c Q y base b dA D n0 z0 pc L S h) {n : Fin 2} (hd : decode (ms_B y) pc = .ok (.lconst n, 1)) (ee : ms_step sc y pc K CA (.lconst n) L S h = some (r, h')) : ms_P h h' ∧ ms_Go p l e R s m args below meth c Q y base b dA D n0 z0 pc L S h := by
  obtain ⟨hx, hb, hml, hown, hts, hK0, hin, hF, hW, hX, hrc, hrs, hs0⟩ := C
  obtain ⟨hp, hg⟩ := hK _ _ _ _ ee
  exact ⟨hp, fun ls H locs cells slots hl hr => lv_lconst hx hb hd rfl (hg ls H locs cells slots hl hr)⟩
theorem so_bipush (C : ms_Ctx p R s m args meth c y base b dA D n0 z0 sc h') (hK : ∀ pc L S h, K pc L S h = some (r, h') → ms_P h h' ∧ ms_Go p l e R s m args below meth c Q y base b dA D n0 z0 pc L S h) {n : Int} (hd : decode (ms_B y) pc = .ok (.bipush n, 2)) (ee : ms_step sc y pc K CA (.bipush n) L S h = some (r, h')) : ms_P h h' ∧ ms_Go p l e R s m args below meth c Q y base b dA D n0 z0 pc L S h := by
  obtain ⟨hx, hb, hml, hown, hts, hK0, hin, hF, hW, hX, hrc, hrs, hs0⟩ := C
  obtain ⟨hp, hg⟩ := hK _ _ _ _ ee
  exact ⟨hp, fun ls H locs cells slots hl hr => lv_bipush hx hb hd rfl (hg ls H locs cells slots hl hr)⟩
theorem so_sipush (C : ms_Ctx p R s m args meth c y base b dA D n0 z0 sc h') (hK : ∀ pc L S h, K pc L S h = some (r, h') → ms_P h h' ∧ ms_Go p l e R s m args below meth c Q y base b dA D n0 z0 pc L S h) {n : Int} (hd : decode (ms_B y) pc = .ok (.sipush n, 3)) (ee : ms_step sc y pc K CA (.sipush n) L S h = some (r, h')) : ms_P h h' ∧ ms_Go p l e R s m args below meth c Q y base b dA D n0 z0 pc L S h := by
  obtain ⟨hx, hb, hml, hown, hts, hK0, hin, hF, hW, hX, hrc, hrs, hs0⟩ := C
  obtain ⟨hp, hg⟩ := hK _ _ _ _ ee
  exact ⟨hp, fun ls H locs cells slots hl hr => lv_sipush hx hb hd rfl (hg ls H locs cells slots hl hr)⟩
theorem so_ldc_w (C : ms_Ctx p R s m args meth c y base b dA D n0 z0 sc h') (hK : ∀ pc L S h, K pc L S h = some (r, h') → ms_P h h' ∧ ms_Go p l e R s m args below meth c Q y base b dA D n0 z0 pc L S h) {i : Nat} (hd : decode (ms_B y) pc = .ok (.ldc_w i, 3)) (ee : ms_step sc y pc K CA (.ldc_w i) L S h = some (r, h')) : ms_P h h' ∧ ms_Go p l e R s m args below meth c Q y base b dA D n0 z0 pc L S h := by
  obtain ⟨hx, hb, hml, hown, hts, hK0, hin, hF, hW, hX, hrc, hrs, hs0⟩ := C
  simp only [ms_step] at ee
  split at ee
  · rename_i v hv
    obtain ⟨hp, hg⟩ := hK _ _ _ _ ee
    exact ⟨hp, fun ls H locs cells slots hl hr => lv_ldcw hx hb hown (hts _ (gd_i hv)) hd (hg ls H locs cells slots hl hr)⟩
  · cases ee
theorem so_ldc2_w (C : ms_Ctx p R s m args meth c y base b dA D n0 z0 sc h') (hK : ∀ pc L S h, K pc L S h = some (r, h') → ms_P h h' ∧ ms_Go p l e R s m args below meth c Q y base b dA D n0 z0 pc L S h) {i : Nat} (hd : decode (ms_B y) pc = .ok (.ldc2_w i, 3)) (ee : ms_step sc y pc K CA (.ldc2_w i) L S h = some (r, h')) : ms_P h h' ∧ ms_Go p l e R s m args below meth c Q y base b dA D n0 z0 pc L S h := by
  obtain ⟨hx, hb, hml, hown, hts, hK0, hin, hF, hW, hX, hrc, hrs, hs0⟩ := C
  simp only [ms_step] at ee
  split at ee
  · rename_i v hv
    obtain ⟨hp, hg⟩ := hK _ _ _ _ ee
    exact ⟨hp, fun ls H locs cells slots hl hr => lv_ldc2 hx hb hown (hts _ (gd_g hv)) hd (hg ls H locs cells slots hl hr)⟩
  · cases ee
theorem so_iload_n (C : ms_Ctx p R s m args meth c y base b dA D n0 z0 sc h') (hK : ∀ pc L S h, K pc L S h = some (r, h') → ms_P h h' ∧ ms_Go p l e R s m args below meth c Q y base b dA D n0 z0 pc L S h) {k : Fin 4} (hd : decode (ms_B y) pc = .ok (.iload_n k, 1)) (ee : ms_step sc y pc K CA (.iload_n k) L S h = some (r, h')) : ms_P h h' ∧ ms_Go p l e R s m args below meth c Q y base b dA D n0 z0 pc L S h := by
  obtain ⟨hx, hb, hml, hown, hts, hK0, hin, hF, hW, hX, hrc, hrs, hs0⟩ := C
  simp only [ms_step] at ee
  split at ee
  · rename_i x hx1
    obtain ⟨hp, hg⟩ := hK _ _ _ _ ee
    exact ⟨hp, fun ls H locs cells slots hl hr => lv_iload_n hx hb hd rfl (hl.2.2.2 _ _ hx1) (hg ls H locs cells slots hl hr)⟩
  · cases ee
theorem so_iload (C : ms_Ctx p R s m args meth c y base b dA D n0 z0 sc h') (hK : ∀ pc L S h, K pc L S h = some (r, h') → ms_P h h' ∧ ms_Go p l e R s m args below meth c Q y base b dA D n0 z0 pc L S h) {k : Nat} (hd : decode (ms_B y) pc = .ok (.iload k, 2)) (ee : ms_step sc y pc K CA (.iload k) L S h = some (r, h')) : ms_P h h' ∧ ms_Go p l e R s m args below meth c Q y base b dA D n0 z0 pc L S h := by
  obtain ⟨hx, hb, hml, hown, hts, hK0, hin, hF, hW, hX, hrc, hrs, hs0⟩ := C
  simp only [ms_step] at ee
  split at ee
  · rename_i x hx1
    obtain ⟨hp, hg⟩ := hK _ _ _ _ ee
    exact ⟨hp, fun ls H locs cells slots hl hr => lv_iload hx hb hd (hl.2.2.2 _ _ hx1) (hg ls H locs cells slots hl hr)⟩
  · cases ee
theorem so_lload_n (C : ms_Ctx p R s m args meth c y base b dA D n0 z0 sc h') (hK : ∀ pc L S h, K pc L S h = some (r, h') → ms_P h h' ∧ ms_Go p l e R s m args below meth c Q y base b dA D n0 z0 pc L S h) {k : Fin 4} (hd : decode (ms_B y) pc = .ok (.lload_n k, 1)) (ee : ms_step sc y pc K CA (.lload_n k) L S h = some (r, h')) : ms_P h h' ∧ ms_Go p l e R s m args below meth c Q y base b dA D n0 z0 pc L S h := by
  obtain ⟨hx, hb, hml, hown, hts, hK0, hin, hF, hW, hX, hrc, hrs, hs0⟩ := C
  simp only [ms_step] at ee
  split at ee
  · rename_i x hx1
    obtain ⟨hp, hg⟩ := hK _ _ _ _ ee
    exact ⟨hp, fun ls H locs cells slots hl hr => lv_lload_n hx hb hd rfl (hl.2.2.2 _ _ hx1) (hg ls H locs cells slots hl hr)⟩
  · cases ee
theorem so_lload (C : ms_Ctx p R s m args meth c y base b dA D n0 z0 sc h') (hK : ∀ pc L S h, K pc L S h = some (r, h') → ms_P h h' ∧ ms_Go p l e R s m args below meth c Q y base b dA D n0 z0 pc L S h) {k : Nat} (hd : decode (ms_B y) pc = .ok (.lload k, 2)) (ee : ms_step sc y pc K CA (.lload k) L S h = some (r, h')) : ms_P h h' ∧ ms_Go p l e R s m args below meth c Q y base b dA D n0 z0 pc L S h := by
  obtain ⟨hx, hb, hml, hown, hts, hK0, hin, hF, hW, hX, hrc, hrs, hs0⟩ := C
  simp only [ms_step] at ee
  split at ee
  · rename_i x hx1
    obtain ⟨hp, hg⟩ := hK _ _ _ _ ee
    exact ⟨hp, fun ls H locs cells slots hl hr => lv_lload hx hb hd (hl.2.2.2 _ _ hx1) (hg ls H locs cells slots hl hr)⟩
  · cases ee
theorem so_aload_n (C : ms_Ctx p R s m args meth c y base b dA D n0 z0 sc h') (hK : ∀ pc L S h, K pc L S h = some (r, h') → ms_P h h' ∧ ms_Go p l e R s m args below meth c Q y base b dA D n0 z0 pc L S h) {k : Fin 4} (hd : decode (ms_B y) pc = .ok (.aload_n k, 1)) (ee : ms_step sc y pc K CA (.aload_n k) L S h = some (r, h')) : ms_P h h' ∧ ms_Go p l e R s m args below meth c Q y base b dA D n0 z0 pc L S h := by
  obtain ⟨hx, hb, hml, hown, hts, hK0, hin, hF, hW, hX, hrc, hrs, hs0⟩ := C
  simp only [ms_step] at ee
  split at ee
  · rename_i x hx1
    obtain ⟨hp, hg⟩ := hK _ _ _ _ ee
    exact ⟨hp, fun ls H locs cells slots hl hr => lv_aload_n hx hb hd rfl (hl.2.2.2 _ _ hx1) (hg ls H locs cells slots hl hr)⟩
  · rename_i x hx1
    obtain ⟨hp, hg⟩ := hK _ _ _ _ ee
    exact ⟨hp, fun ls H locs cells slots hl hr => lv_aload_n hx hb hd rfl (hl.2.2.2 _ _ hx1) (hg ls H locs cells slots hl hr)⟩
  · cases ee
theorem so_aload (C : ms_Ctx p R s m args meth c y base b dA D n0 z0 sc h') (hK : ∀ pc L S h, K pc L S h = some (r, h') → ms_P h h' ∧ ms_Go p l e R s m args below meth c Q y base b dA D n0 z0 pc L S h) {k : Nat} (hd : decode (ms_B y) pc = .ok (.aload k, 2)) (ee : ms_step sc y pc K CA (.aload k) L S h = some (r, h')) : ms_P h h' ∧ ms_Go p l e R s m args below meth c Q y base b dA D n0 z0 pc L S h := by
  obtain ⟨hx, hb, hml, hown, hts, hK0, hin, hF, hW, hX, hrc, hrs, hs0⟩ := C
  simp only [ms_step] at ee
  split at ee
  · rename_i x hx1
    obtain ⟨hp, hg⟩ := hK _ _ _ _ ee
    exact ⟨hp, fun ls H locs cells slots hl hr => lv_aload hx hb hd (hl.2.2.2 _ _ hx1) (hg ls H locs cells slots hl hr)⟩
  · rename_i x hx1
    obtain ⟨hp, hg⟩ := hK _ _ _ _ ee
    exact ⟨hp, fun ls H locs cells slots hl hr => lv_aload hx hb hd (hl.2.2.2 _ _ hx1) (hg ls H locs cells slots hl hr)⟩
  · cases ee
theorem ms_set_lt {L L' : List (Option Value)} {i : Nat} {v : Value} (h : ms_set L i v = some L') : i < L.length := by
  unfold ms_set at h
  split at h
  · rename_i hi; exact hi
  · cases h
theorem ms_set2_lt {L L' : List (Option Value)} {i : Nat} {v : Value} (h : ms_set2 L i v = some L') : i + 1 < L.length := by
  unfold ms_set2 at h
  split at h
  · rename_i hi; exact hi
  · cases h
theorem so_istore_n (C : ms_Ctx p R s m args meth c y base b dA D n0 z0 sc h') (hK : ∀ pc L S h, K pc L S h = some (r, h') → ms_P h h' ∧ ms_Go p l e R s m args below meth c Q y base b dA D n0 z0 pc L S h) {k : Fin 4} (hd : decode (ms_B y) pc = .ok (.istore_n k, 1)) (ee : ms_step sc y pc K CA (.istore_n k) L S h = some (r, h')) : ms_P h h' ∧ ms_Go p l e R s m args below meth c Q y base b dA D n0 z0 pc L S h := by
  obtain ⟨hx, hb, hml, hown, hts, hK0, hin, hF, hW, hX, hrc, hrs, hs0⟩ := C
  simp only [ms_step] at ee
  split at ee
  · rename_i x S1
    split at ee
    · rename_i L1 hL
      obtain ⟨hp, hg⟩ := hK _ _ _ _ ee
      refine ⟨hp, fun ls H locs cells slots hl hr => ?_⟩
      obtain ⟨l0, h0, h1⟩ := hl.has
      exact lv_istore_n hx hb hd rfl h0 (by rw [← hl.2.2.1]; exact (ms_set_lt hL)) rfl (fun ls' hl' => hg ls' H locs cells slots (ms_lv.set1 hl.2.2.1 h1 hL hl') hr)
    · cases ee
  · cases ee
theorem so_istore (C : ms_Ctx p R s m args meth c y base b dA D n0 z0 sc h') (hK : ∀ pc L S h, K pc L S h = some (r, h') → ms_P h h' ∧ ms_Go p l e R s m args below meth c Q y base b dA D n0 z0 pc L S h) {k : Nat} (hd : decode (ms_B y) pc = .ok (.istore k, 2)) (ee : ms_step sc y pc K CA (.istore k) L S h = some (r, h')) : ms_P h h' ∧ ms_Go p l e R s m args below meth c Q y base b dA D n0 z0 pc L S h := by
  obtain ⟨hx, hb, hml, hown, hts, hK0, hin, hF, hW, hX, hrc, hrs, hs0⟩ := C
  simp only [ms_step] at ee
  split at ee
  · rename_i x S1
    split at ee
    · rename_i L1 hL
      obtain ⟨hp, hg⟩ := hK _ _ _ _ ee
      refine ⟨hp, fun ls H locs cells slots hl hr => ?_⟩
      obtain ⟨l0, h0, h1⟩ := hl.has
      exact lv_istore hx hb hd h0 (by rw [← hl.2.2.1]; exact (ms_set_lt hL)) rfl (fun ls' hl' => hg ls' H locs cells slots (ms_lv.set1 hl.2.2.1 h1 hL hl') hr)
    · cases ee
  · cases ee
theorem so_astore_n (C : ms_Ctx p R s m args meth c y base b dA D n0 z0 sc h') (hK : ∀ pc L S h, K pc L S h = some (r, h') → ms_P h h' ∧ ms_Go p l e R s m args below meth c Q y base b dA D n0 z0 pc L S h) {k : Fin 4} (hd : decode (ms_B y) pc = .ok (.astore_n k, 1)) (ee : ms_step sc y pc K CA (.astore_n k) L S h = some (r, h')) : ms_P h h' ∧ ms_Go p l e R s m args below meth c Q y base b dA D n0 z0 pc L S h := by
  obtain ⟨hx, hb, hml, hown, hts, hK0, hin, hF, hW, hX, hrc, hrs, hs0⟩ := C
  simp only [ms_step] at ee
  split at ee
  · rename_i x S1
    split at ee
    · rename_i L1 hL
      obtain ⟨hp, hg⟩ := hK _ _ _ _ ee
      refine ⟨hp, fun ls H locs cells slots hl hr => ?_⟩
      obtain ⟨l0, h0, h1⟩ := hl.has
      exact lv_astore_n hx hb hd rfl h0 (by rw [← hl.2.2.1]; exact (ms_set_lt hL)) rfl (fun ls' hl' => hg ls' H locs cells slots (ms_lv.set1 hl.2.2.1 h1 hL hl') hr)
    · cases ee
  · cases ee
theorem so_lstore_n (C : ms_Ctx p R s m args meth c y base b dA D n0 z0 sc h') (hK : ∀ pc L S h, K pc L S h = some (r, h') → ms_P h h' ∧ ms_Go p l e R s m args below meth c Q y base b dA D n0 z0 pc L S h) {k : Fin 4} (hd : decode (ms_B y) pc = .ok (.lstore_n k, 1)) (ee : ms_step sc y pc K CA (.lstore_n k) L S h = some (r, h')) : ms_P h h' ∧ ms_Go p l e R s m args below meth c Q y base b dA D n0 z0 pc L S h := by
  obtain ⟨hx, hb, hml, hown, hts, hK0, hin, hF, hW, hX, hrc, hrs, hs0⟩ := C
  simp only [ms_step] at ee
  split at ee
  · rename_i x S1
    split at ee
    · rename_i L1 hL
      obtain ⟨hp, hg⟩ := hK _ _ _ _ ee
      refine ⟨hp, fun ls H locs cells slots hl hr => ?_⟩
      obtain ⟨l0, h0, h1⟩ := hl.has
      exact lv_lstore_n hx hb hd rfl h0 (by rw [← hl.2.2.1]; exact (ms_set2_lt hL)) rfl (fun ls' hl' => hg ls' H locs cells slots (ms_lv.set2 hl.2.2.1 h1 hL hl') hr)
    · cases ee
  · cases ee
theorem so_lstore (C : ms_Ctx p R s m args meth c y base b dA D n0 z0 sc h') (hK : ∀ pc L S h, K pc L S h = some (r, h') → ms_P h h' ∧ ms_Go p l e R s m args below meth c Q y base b dA D n0 z0 pc L S h) {k : Nat} (hd : decode (ms_B y) pc = .ok (.lstore k, 2)) (ee : ms_step sc y pc K CA (.lstore k) L S h = some (r, h')) : ms_P h h' ∧ ms_Go p l e R s m args below meth c Q y base b dA D n0 z0 pc L S h := by
  obtain ⟨hx, hb, hml, hown, hts, hK0, hin, hF, hW, hX, hrc, hrs, hs0⟩ := C
  simp only [ms_step] at ee
  split at ee
  · rename_i x S1
    split at ee
    · rename_i L1 hL
      obtain ⟨hp, hg⟩ := hK _ _ _ _ ee
      refine ⟨hp, fun ls H locs cells slots hl hr => ?_⟩
      obtain ⟨l0, h0, h1⟩ := hl.has
      exact lv_lstore hx hb hd h0 (by rw [← hl.2.2.1]; exact (ms_set2_lt hL)) rfl (fun ls' hl' => hg ls' H locs cells slots (ms_lv.set2 hl.2.2.1 h1 hL hl') hr)
    · cases ee
  · cases ee
theorem so_iinc (C : ms_Ctx p R s m args meth c y base b dA D n0 z0 sc h') (hK : ∀ pc L S h, K pc L S h = some (r, h') → ms_P h h' ∧ ms_Go p l e R s m args below meth c Q y base b dA D n0 z0 pc L S h) {k : Nat} {n : Int} (hd : decode (ms_B y) pc = .ok (.iinc k n, 3)) (ee : ms_step sc y pc K CA (.iinc k n) L S h = some (r, h')) : ms_P h h' ∧ ms_Go p l e R s m args below meth c Q y base b dA D n0 z0 pc L S h := by
  obtain ⟨hx, hb, hml, hown, hts, hK0, hin, hF, hW, hX, hrc, hrs, hs0⟩ := C
  simp only [ms_step] at ee
  split at ee
  · rename_i x hx1
    split at ee
    · rename_i L1 hL
      obtain ⟨hp, hg⟩ := hK _ _ _ _ ee
      refine ⟨hp, fun ls H locs cells slots hl hr => ?_⟩
      obtain ⟨l0, h0, h1⟩ := hl.has
      obtain ⟨j, hj⟩ := List.getElem?_of_mem (h1 _ _ hx1)
      exact lv_iinc hx hb hd h0 hj rfl (by rw [← hl.2.2.1]; exact ms_set_lt hL) rfl (fun ls' hl' => hg ls' H locs cells slots (ms_lv.set1 hl.2.2.1 h1 hL hl') hr)
    · cases ee
  · cases ee
theorem so_iadd (C : ms_Ctx p R s m args meth c y base b dA D n0 z0 sc h') (hK : ∀ pc L S h, K pc L S h = some (r, h') → ms_P h h' ∧ ms_Go p l e R s m args below meth c Q y base b dA D n0 z0 pc L S h)  (hd : decode (ms_B y) pc = .ok (.iadd, 1)) (ee : ms_step sc y pc K CA (.iadd) L S h = some (r, h')) : ms_P h h' ∧ ms_Go p l e R s m args below meth c Q y base b dA D n0 z0 pc L S h := by
  obtain ⟨hx, hb, hml, hown, hts, hK0, hin, hF, hW, hX, hrc, hrs, hs0⟩ := C
  simp only [ms_step] at ee
  obtain ⟨xx, yy, S1, g, rfl, hg1, hg2⟩ := ms_bin_some ee
  cases hg1
  obtain ⟨hp, hg⟩ := hK _ _ _ _ hg2
  exact ⟨hp, fun ls H locs cells slots hl hr => lv_iadd hx hb hd (hg ls H locs cells slots hl hr)⟩
theorem so_isub (C : ms_Ctx p R s m args meth c y base b dA D n0 z0 sc h') (hK : ∀ pc L S h, K pc L S h = some (r, h') → ms_P h h' ∧ ms_Go p l e R s m args below meth c Q y base b dA D n0 z0 pc L S h)  (hd : decode (ms_B y) pc = .ok (.isub, 1)) (ee : ms_step sc y pc K CA (.isub) L S h = some (r, h')) : ms_P h h' ∧ ms_Go p l e R s m args below meth c Q y base b dA D n0 z0 pc L S h := by
  obtain ⟨hx, hb, hml, hown, hts, hK0, hin, hF, hW, hX, hrc, hrs, hs0⟩ := C
  simp only [ms_step] at ee
  obtain ⟨xx, yy, S1, g, rfl, hg1, hg2⟩ := ms_bin_some ee
  cases hg1
  obtain ⟨hp, hg⟩ := hK _ _ _ _ hg2
  exact ⟨hp, fun ls H locs cells slots hl hr => lv_isub hx hb hd (hg ls H locs cells slots hl hr)⟩
theorem so_imul (C : ms_Ctx p R s m args meth c y base b dA D n0 z0 sc h') (hK : ∀ pc L S h, K pc L S h = some (r, h') → ms_P h h' ∧ ms_Go p l e R s m args below meth c Q y base b dA D n0 z0 pc L S h)  (hd : decode (ms_B y) pc = .ok (.imul, 1)) (ee : ms_step sc y pc K CA (.imul) L S h = some (r, h')) : ms_P h h' ∧ ms_Go p l e R s m args below meth c Q y base b dA D n0 z0 pc L S h := by
  obtain ⟨hx, hb, hml, hown, hts, hK0, hin, hF, hW, hX, hrc, hrs, hs0⟩ := C
  simp only [ms_step] at ee
  obtain ⟨xx, yy, S1, g, rfl, hg1, hg2⟩ := ms_bin_some ee
  cases hg1
  obtain ⟨hp, hg⟩ := hK _ _ _ _ hg2
  exact ⟨hp, fun ls H locs cells slots hl hr => lv_imul hx hb hd (hg ls H locs cells slots hl hr)⟩
theorem so_iand (C : ms_Ctx p R s m args meth c y base b dA D n0 z0 sc h') (hK : ∀ pc L S h, K pc L S h = some (r, h') → ms_P h h' ∧ ms_Go p l e R s m args below meth c Q y base b dA D n0 z0 pc L S h)  (hd : decode (ms_B y) pc = .ok (.iand, 1)) (ee : ms_step sc y pc K CA (.iand) L S h = some (r, h')) : ms_P h h' ∧ ms_Go p l e R s m args below meth c Q y base b dA D n0 z0 pc L S h := by
  obtain ⟨hx, hb, hml, hown, hts, hK0, hin, hF, hW, hX, hrc, hrs, hs0⟩ := C
  simp only [ms_step] at ee
  obtain ⟨xx, yy, S1, g, rfl, hg1, hg2⟩ := ms_bin_some ee
  cases hg1
  obtain ⟨hp, hg⟩ := hK _ _ _ _ hg2
  exact ⟨hp, fun ls H locs cells slots hl hr => lv_iand hx hb hd (hg ls H locs cells slots hl hr)⟩
theorem so_ior (C : ms_Ctx p R s m args meth c y base b dA D n0 z0 sc h') (hK : ∀ pc L S h, K pc L S h = some (r, h') → ms_P h h' ∧ ms_Go p l e R s m args below meth c Q y base b dA D n0 z0 pc L S h)  (hd : decode (ms_B y) pc = .ok (.ior, 1)) (ee : ms_step sc y pc K CA (.ior) L S h = some (r, h')) : ms_P h h' ∧ ms_Go p l e R s m args below meth c Q y base b dA D n0 z0 pc L S h := by
  obtain ⟨hx, hb, hml, hown, hts, hK0, hin, hF, hW, hX, hrc, hrs, hs0⟩ := C
  simp only [ms_step] at ee
  obtain ⟨xx, yy, S1, g, rfl, hg1, hg2⟩ := ms_bin_some ee
  cases hg1
  obtain ⟨hp, hg⟩ := hK _ _ _ _ hg2
  exact ⟨hp, fun ls H locs cells slots hl hr => lv_ior hx hb hd (hg ls H locs cells slots hl hr)⟩
theorem so_ishl (C : ms_Ctx p R s m args meth c y base b dA D n0 z0 sc h') (hK : ∀ pc L S h, K pc L S h = some (r, h') → ms_P h h' ∧ ms_Go p l e R s m args below meth c Q y base b dA D n0 z0 pc L S h)  (hd : decode (ms_B y) pc = .ok (.ishl, 1)) (ee : ms_step sc y pc K CA (.ishl) L S h = some (r, h')) : ms_P h h' ∧ ms_Go p l e R s m args below meth c Q y base b dA D n0 z0 pc L S h := by
  obtain ⟨hx, hb, hml, hown, hts, hK0, hin, hF, hW, hX, hrc, hrs, hs0⟩ := C
  simp only [ms_step] at ee
  obtain ⟨xx, yy, S1, g, rfl, hg1, hg2⟩ := ms_bin_some ee
  cases hg1
  obtain ⟨hp, hg⟩ := hK _ _ _ _ hg2
  exact ⟨hp, fun ls H locs cells slots hl hr => lv_ishl hx hb hd (hg ls H locs cells slots hl hr)⟩
theorem so_ishr (C : ms_Ctx p R s m args meth c y base b dA D n0 z0 sc h') (hK : ∀ pc L S h, K pc L S h = some (r, h') → ms_P h h' ∧ ms_Go p l e R s m args below meth c Q y base b dA D n0 z0 pc L S h)  (hd : decode (ms_B y) pc = .ok (.ishr, 1)) (ee : ms_step sc y pc K CA (.ishr) L S h = some (r, h')) : ms_P h h' ∧ ms_Go p l e R s m args below meth c Q y base b dA D n0 z0 pc L S h := by
  obtain ⟨hx, hb, hml, hown, hts, hK0, hin, hF, hW, hX, hrc, hrs, hs0⟩ := C
  simp only [ms_step] at ee
  obtain ⟨xx, yy, S1, g, rfl, hg1, hg2⟩ := ms_bin_some ee
  cases hg1
  obtain ⟨hp, hg⟩ := hK _ _ _ _ hg2
  exact ⟨hp, fun ls H locs cells slots hl hr => lv_ishr hx hb hd (hg ls H locs cells slots hl hr)⟩
theorem so_iushr (C : ms_Ctx p R s m args meth c y base b dA D n0 z0 sc h') (hK : ∀ pc L S h, K pc L S h = some (r, h') → ms_P h h' ∧ ms_Go p l e R s m args below meth c Q y base b dA D n0 z0 pc L S h)  (hd : decode (ms_B y) pc = .ok (.iushr, 1)) (ee : ms_step sc y pc K CA (.iushr) L S h = some (r, h')) : ms_P h h' ∧ ms_Go p l e R s m args below meth c Q y base b dA D n0 z0 pc L S h := by
  obtain ⟨hx, hb, hml, hown, hts, hK0, hin, hF, hW, hX, hrc, hrs, hs0⟩ := C
  simp only [ms_step] at ee
  obtain ⟨xx, yy, S1, g, rfl, hg1, hg2⟩ := ms_bin_some ee
  cases hg1
  obtain ⟨hp, hg⟩ := hK _ _ _ _ hg2
  exact ⟨hp, fun ls H locs cells slots hl hr => lv_iushr hx hb hd rfl (hg ls H locs cells slots hl hr)⟩
theorem so_idiv (C : ms_Ctx p R s m args meth c y base b dA D n0 z0 sc h') (hK : ∀ pc L S h, K pc L S h = some (r, h') → ms_P h h' ∧ ms_Go p l e R s m args below meth c Q y base b dA D n0 z0 pc L S h)  (hd : decode (ms_B y) pc = .ok (.idiv, 1)) (ee : ms_step sc y pc K CA (.idiv) L S h = some (r, h')) : ms_P h h' ∧ ms_Go p l e R s m args below meth c Q y base b dA D n0 z0 pc L S h := by
  obtain ⟨hx, hb, hml, hown, hts, hK0, hin, hF, hW, hX, hrc, hrs, hs0⟩ := C
  simp only [ms_step] at ee
  obtain ⟨xx, yy, S1, g, rfl, hg1, hg2⟩ := ms_bin_some ee
  split at hg1
  · cases hg1
  · rename_i hne
    cases hg1
    obtain ⟨hp, hg⟩ := hK _ _ _ _ hg2
    exact ⟨hp, fun ls H locs cells slots hl hr => lv_idiv hx hb hd hne (hg ls H locs cells slots hl hr)⟩
theorem so_irem (C : ms_Ctx p R s m args meth c y base b dA D n0 z0 sc h') (hK : ∀ pc L S h, K pc L S h = some (r, h') → ms_P h h' ∧ ms_Go p l e R s m args below meth c Q y base b dA D n0 z0 pc L S h)  (hd : decode (ms_B y) pc = .ok (.irem, 1)) (ee : ms_step sc y pc K CA (.irem) L S h = some (r, h')) : ms_P h h' ∧ ms_Go p l e R s m args below meth c Q y base b dA D n0 z0 pc L S h := by
  obtain ⟨hx, hb, hml, hown, hts, hK0, hin, hF, hW, hX, hrc, hrs, hs0⟩ := C
  simp only [ms_step] at ee
  obtain ⟨xx, yy, S1, g, rfl, hg1, hg2⟩ := ms_bin_some ee
  split at hg1
  · cases hg1
  · rename_i hne
    cases hg1
    obtain ⟨hp, hg⟩ := hK _ _ _ _ hg2
    exact ⟨hp, fun ls H locs cells slots hl hr => lv_irem hx hb hd hne (hg ls H locs cells slots hl hr)⟩
theorem so_ladd (C : ms_Ctx p R s m args meth c y base b dA D n0 z0 sc h') (hK : ∀ pc L S h, K pc L S h = some (r, h') → ms_P h h' ∧ ms_Go p l e R s m args below meth c Q y base b dA D n0 z0 pc L S h)  (hd : decode (ms_B y) pc = .ok (.ladd, 1)) (ee : ms_step sc y pc K CA (.ladd) L S h = some (r, h')) : ms_P h h' ∧ ms_Go p l e R s m args below meth c Q y base b dA D n0 z0 pc L S h := by
  obtain ⟨hx, hb, hml, hown, hts, hK0, hin, hF, hW, hX, hrc, hrs, hs0⟩ := C
  simp only [ms_step] at ee
  split at ee
  · obtain ⟨hp, hg⟩ := hK _ _ _ _ ee
    exact ⟨hp, fun ls H locs cells slots hl hr => lv_ladd hx hb hd (hg ls H locs cells slots hl hr)⟩
  · cases ee
theorem so_lmul (C : ms_Ctx p R s m args meth c y base b dA D n0 z0 sc h') (hK : ∀ pc L S h, K pc L S h = some (r, h') → ms_P h h' ∧ ms_Go p l e R s m args below meth c Q y base b dA D n0 z0 pc L S h)  (hd : decode (ms_B y) pc = .ok (.lmul, 1)) (ee : ms_step sc y pc K CA (.lmul) L S h = some (r, h')) : ms_P h h' ∧ ms_Go p l e R s m args below meth c Q y base b dA D n0 z0 pc L S h := by
  obtain ⟨hx, hb, hml, hown, hts, hK0, hin, hF, hW, hX, hrc, hrs, hs0⟩ := C
  simp only [ms_step] at ee
  split at ee
  · obtain ⟨hp, hg⟩ := hK _ _ _ _ ee
    exact ⟨hp, fun ls H locs cells slots hl hr => lv_lmul hx hb hd (hg ls H locs cells slots hl hr)⟩
  · cases ee
theorem so_lcmp (C : ms_Ctx p R s m args meth c y base b dA D n0 z0 sc h') (hK : ∀ pc L S h, K pc L S h = some (r, h') → ms_P h h' ∧ ms_Go p l e R s m args below meth c Q y base b dA D n0 z0 pc L S h)  (hd : decode (ms_B y) pc = .ok (.lcmp, 1)) (ee : ms_step sc y pc K CA (.lcmp) L S h = some (r, h')) : ms_P h h' ∧ ms_Go p l e R s m args below meth c Q y base b dA D n0 z0 pc L S h := by
  obtain ⟨hx, hb, hml, hown, hts, hK0, hin, hF, hW, hX, hrc, hrs, hs0⟩ := C
  simp only [ms_step] at ee
  split at ee
  · obtain ⟨hp, hg⟩ := hK _ _ _ _ ee
    exact ⟨hp, fun ls H locs cells slots hl hr => W.lcmp hx hb hd (hg ls H locs cells slots hl hr)⟩
  · cases ee
theorem so_ldiv (C : ms_Ctx p R s m args meth c y base b dA D n0 z0 sc h') (hK : ∀ pc L S h, K pc L S h = some (r, h') → ms_P h h' ∧ ms_Go p l e R s m args below meth c Q y base b dA D n0 z0 pc L S h)  (hd : decode (ms_B y) pc = .ok (.ldiv, 1)) (ee : ms_step sc y pc K CA (.ldiv) L S h = some (r, h')) : ms_P h h' ∧ ms_Go p l e R s m args below meth c Q y base b dA D n0 z0 pc L S h := by
  obtain ⟨hx, hb, hml, hown, hts, hK0, hin, hF, hW, hX, hrc, hrs, hs0⟩ := C
  simp only [ms_step] at ee
  split at ee
  · split at ee
    · cases ee
    · rename_i hne
      obtain ⟨hp, hg⟩ := hK _ _ _ _ ee
      exact ⟨hp, fun ls H locs cells slots hl hr => lv_ldiv hx hb hd hne (hg ls H locs cells slots hl hr)⟩
  · cases ee
theorem so_lrem (C : ms_Ctx p R s m args meth c y base b dA D n0 z0 sc h') (hK : ∀ pc L S h, K pc L S h = some (r, h') → ms_P h h' ∧ ms_Go p l e R s m args below meth c Q y base b dA D n0 z0 pc L S h)  (hd : decode (ms_B y) pc = .ok (.lrem, 1)) (ee : ms_step sc y pc K CA (.lrem) L S h = some (r, h')) : ms_P h h' ∧ ms_Go p l e R s m args below meth c Q y base b dA D n0 z0 pc L S h := by
  obtain ⟨hx, hb, hml, hown, hts, hK0, hin, hF, hW, hX, hrc, hrs, hs0⟩ := C
  simp only [ms_step] at ee
  split at ee
  · split at ee
    · cases ee
    · rename_i hne
      obtain ⟨hp, hg⟩ := hK _ _ _ _ ee
      exact ⟨hp, fun ls H locs cells slots hl hr => lv_lrem hx hb hd hne (hg ls H locs cells slots hl hr)⟩
  · cases ee
theorem so_i2l (C : ms_Ctx p R s m args meth c y base b dA D n0 z0 sc h') (hK : ∀ pc L S h, K pc L S h = some (r, h') → ms_P h h' ∧ ms_Go p l e R s m args below meth c Q y base b dA D n0 z0 pc L S h)  (hd : decode (ms_B y) pc = .ok (.i2l, 1)) (ee : ms_step sc y pc K CA (.i2l) L S h = some (r, h')) : ms_P h h' ∧ ms_Go p l e R s m args below meth c Q y base b dA D n0 z0 pc L S h := by
  obtain ⟨hx, hb, hml, hown, hts, hK0, hin, hF, hW, hX, hrc, hrs, hs0⟩ := C
  simp only [ms_step] at ee
  split at ee
  · obtain ⟨hp, hg⟩ := hK _ _ _ _ ee
    exact ⟨hp, fun ls H locs cells slots hl hr => lv_i2l hx hb hd rfl (hg ls H locs cells slots hl hr)⟩
  · cases ee
theorem so_l2i (C : ms_Ctx p R s m args meth c y base b dA D n0 z0 sc h') (hK : ∀ pc L S h, K pc L S h = some (r, h') → ms_P h h' ∧ ms_Go p l e R s m args below meth c Q y base b dA D n0 z0 pc L S h)  (hd : decode (ms_B y) pc = .ok (.l2i, 1)) (ee : ms_step sc y pc K CA (.l2i) L S h = some (r, h')) : ms_P h h' ∧ ms_Go p l e R s m args below meth c Q y base b dA D n0 z0 pc L S h := by
  obtain ⟨hx, hb, hml, hown, hts, hK0, hin, hF, hW, hX, hrc, hrs, hs0⟩ := C
  simp only [ms_step] at ee
  split at ee
  · obtain ⟨hp, hg⟩ := hK _ _ _ _ ee
    exact ⟨hp, fun ls H locs cells slots hl hr => lv_l2i hx hb hd rfl (hg ls H locs cells slots hl hr)⟩
  · cases ee
theorem so_i2c (C : ms_Ctx p R s m args meth c y base b dA D n0 z0 sc h') (hK : ∀ pc L S h, K pc L S h = some (r, h') → ms_P h h' ∧ ms_Go p l e R s m args below meth c Q y base b dA D n0 z0 pc L S h)  (hd : decode (ms_B y) pc = .ok (.i2c, 1)) (ee : ms_step sc y pc K CA (.i2c) L S h = some (r, h')) : ms_P h h' ∧ ms_Go p l e R s m args below meth c Q y base b dA D n0 z0 pc L S h := by
  obtain ⟨hx, hb, hml, hown, hts, hK0, hin, hF, hW, hX, hrc, hrs, hs0⟩ := C
  simp only [ms_step] at ee
  split at ee
  · obtain ⟨hp, hg⟩ := hK _ _ _ _ ee
    exact ⟨hp, fun ls H locs cells slots hl hr => lv_i2c hx hb hd rfl (hg ls H locs cells slots hl hr)⟩
  · cases ee
theorem so_dup (C : ms_Ctx p R s m args meth c y base b dA D n0 z0 sc h') (hK : ∀ pc L S h, K pc L S h = some (r, h') → ms_P h h' ∧ ms_Go p l e R s m args below meth c Q y base b dA D n0 z0 pc L S h)  (hd : decode (ms_B y) pc = .ok (.dup, 1)) (ee : ms_step sc y pc K CA (.dup) L S h = some (r, h')) : ms_P h h' ∧ ms_Go p l e R s m args below meth c Q y base b dA D n0 z0 pc L S h := by
  obtain ⟨hx, hb, hml, hown, hts, hK0, hin, hF, hW, hX, hrc, hrs, hs0⟩ := C
  simp only [ms_step] at ee
  split at ee
  · split at ee
    · rename_i h1
      obtain ⟨hp, hg⟩ := hK _ _ _ _ ee
      exact ⟨hp, fun ls H locs cells slots hl hr => lv_dup hx hb hd (ms_one_cat h1) (hg ls H locs cells slots hl hr)⟩
    · cases ee
  · cases ee
theorem so_pop (C : ms_Ctx p R s m args meth c y base b dA D n0 z0 sc h') (hK : ∀ pc L S h, K pc L S h = some (r, h') → ms_P h h' ∧ ms_Go p l e R s m args below meth c Q y base b dA D n0 z0 pc L S h)  (hd : decode (ms_B y) pc = .ok (.pop, 1)) (ee : ms_step sc y pc K CA (.pop) L S h = some (r, h')) : ms_P h h' ∧ ms_Go p l e R s m args below meth c Q y base b dA D n0 z0 pc L S h := by
  obtain ⟨hx, hb, hml, hown, hts, hK0, hin, hF, hW, hX, hrc, hrs, hs0⟩ := C
  simp only [ms_step] at ee
  split at ee
  · split at ee
    · rename_i h1
      obtain ⟨hp, hg⟩ := hK _ _ _ _ ee
      exact ⟨hp, fun ls H locs cells slots hl hr => lv_pop hx hb hd (ms_one_cat h1) (hg ls H locs cells slots hl hr)⟩
    · cases ee
  · cases ee
theorem so_dup2 (C : ms_Ctx p R s m args meth c y base b dA D n0 z0 sc h') (hK : ∀ pc L S h, K pc L S h = some (r, h') → ms_P h h' ∧ ms_Go p l e R s m args below meth c Q y base b dA D n0 z0 pc L S h)  (hd : decode (ms_B y) pc = .ok (.dup2, 1)) (ee : ms_step sc y pc K CA (.dup2) L S h = some (r, h')) : ms_P h h' ∧ ms_Go p l e R s m args below meth c Q y base b dA D n0 z0 pc L S h := by
  obtain ⟨hx, hb, hml, hown, hts, hK0, hin, hF, hW, hX, hrc, hrs, hs0⟩ := C
  simp only [ms_step] at ee
  split at ee
  · split at ee
    · rename_i h1
      rw [Bool.and_eq_true] at h1
      obtain ⟨hp, hg⟩ := hK _ _ _ _ ee
      exact ⟨hp, fun ls H locs cells slots hl hr => lv_dup2_11 hx hb hd (ms_one_cat h1.1) (ms_one_cat h1.2) (hg ls H locs cells slots hl hr)⟩
    · cases ee
  · cases ee
theorem so_goto (C : ms_Ctx p R s m args meth c y base b dA D n0 z0 sc h') (hK : ∀ pc L S h, K pc L S h = some (r, h') → ms_P h h' ∧ ms_Go p l e R s m args below meth c Q y base b dA D n0 z0 pc L S h) {o : Int} (hd : decode (ms_B y) pc = .ok (.goto o, 3)) (ee : ms_step sc y pc K CA (.goto o) L S h = some (r, h')) : ms_P h h' ∧ ms_Go p l e R s m args below meth c Q y base b dA D n0 z0 pc L S h := by
  obtain ⟨hx, hb, hml, hown, hts, hK0, hin, hF, hW, hX, hrc, hrs, hs0⟩ := C
  simp only [ms_step] at ee
  obtain ⟨t, ht, hk⟩ := ms_go_some ee
  obtain ⟨hp, hg⟩ := hK _ _ _ _ hk
  exact ⟨hp, fun ls H locs cells slots hl hr => lv_goto hx hb hd ht (hg ls H locs cells slots hl hr)⟩
theorem so_ifCond (C : ms_Ctx p R s m args meth c y base b dA D n0 z0 sc h') (hK : ∀ pc L S h, K pc L S h = some (r, h') → ms_P h h' ∧ ms_Go p l e R s m args below meth c Q y base b dA D n0 z0 pc L S h) {q : ClassFile.Cond} {o : Int} (hd : decode (ms_B y) pc = .ok (.ifCond q o, 3)) (ee : ms_step sc y pc K CA (.ifCond q o) L S h = some (r, h')) : ms_P h h' ∧ ms_Go p l e R s m args below meth c Q y base b dA D n0 z0 pc L S h := by
  obtain ⟨hx, hb, hml, hown, hts, hK0, hin, hF, hW, hX, hrc, hrs, hs0⟩ := C
  simp only [ms_step] at ee
  split at ee
  · obtain ⟨t, ht, ee⟩ := ms_go_some ee
    split at ee
    · rename_i hc _
      obtain ⟨hp, hg⟩ := hK _ _ _ _ ee
      refine ⟨hp, fun ls H locs cells slots hl hr => ?_⟩
      cases q <;> first
        | exact lv_if_eq hx hb hd ht (fun _ => hg ls H locs cells slots hl hr) (fun n => absurd hc n)
        | exact lv_if_ne hx hb hd ht (fun _ => hg ls H locs cells slots hl hr) (fun n => absurd n hc)
        | exact lv_if_lt hx hb hd ht (fun _ => hg ls H locs cells slots hl hr) (fun n => absurd hc n)
        | exact lv_if_ge hx hb hd ht (fun _ => hg ls H locs cells slots hl hr) (fun n => absurd hc n)
        | exact lv_if_gt hx hb hd ht (fun _ => hg ls H locs cells slots hl hr) (fun n => absurd hc n)
        | exact lv_if_le hx hb hd ht (fun _ => hg ls H locs cells slots hl hr) (fun n => absurd hc n)
    · rename_i hc _
      obtain ⟨hp, hg⟩ := hK _ _ _ _ ee
      refine ⟨hp, fun ls H locs cells slots hl hr => ?_⟩
      have hh := hg ls H locs cells slots hl hr
      cases q <;> first
        | exact lv_if_eq hx hb hd ht (fun n => absurd n hc) (fun _ => hh)
        | exact lv_if_ne hx hb hd ht (fun n => absurd n hc) (fun _ => hh)
        | exact lv_if_ne hx hb hd ht (fun n => absurd n hc) (fun _ => hh)
        | exact lv_if_lt hx hb hd ht (fun n => absurd n hc) (fun _ => hh)
        | exact lv_if_ge hx hb hd ht (fun n => absurd n hc) (fun _ => hh)
        | exact lv_if_gt hx hb hd ht (fun n => absurd n hc) (fun _ => hh)
        | exact lv_if_le hx hb hd ht (fun n => absurd n hc) (fun _ => hh)
  · cases ee
theorem so_if_icmp (C : ms_Ctx p R s m args meth c y base b dA D n0 z0 sc h') (hK : ∀ pc L S h, K pc L S h = some (r, h') → ms_P h h' ∧ ms_Go p l e R s m args below meth c Q y base b dA D n0 z0 pc L S h) {q : ClassFile.Cond} {o : Int} (hd : decode (ms_B y) pc = .ok (.if_icmp q o, 3)) (ee : ms_step sc y pc K CA (.if_icmp q o) L S h = some (r, h')) : ms_P h h' ∧ ms_Go p l e R s m args below meth c Q y base b dA D n0 z0 pc L S h := by
  obtain ⟨hx, hb, hml, hown, hts, hK0, hin, hF, hW, hX, hrc, hrs, hs0⟩ := C
  simp only [ms_step] at ee
  split at ee
  · obtain ⟨t, ht, ee⟩ := ms_go_some ee
    split at ee
    · rename_i hc _
      obtain ⟨hp, hg⟩ := hK _ _ _ _ ee
      refine ⟨hp, fun ls H locs cells slots hl hr => ?_⟩
      cases q <;> first
        | exact lv_icmp_eq hx hb hd ht (fun _ => hg ls H locs cells slots hl hr) (fun n => absurd hc n)
        | exact lv_icmp_ne hx hb hd ht (fun _ => hg ls H locs cells slots hl hr) (fun n => absurd n hc)
        | exact lv_icmp_lt hx hb hd ht (fun _ => hg ls H locs cells slots hl hr) (fun n => absurd hc n)
        | exact lv_icmp_ge hx hb hd ht (fun _ => hg ls H locs cells slots hl hr) (fun n => absurd hc n)
        | exact lv_icmp_gt hx hb hd ht (fun _ => hg ls H locs cells slots hl hr) (fun n => absurd hc n)
        | exact lv_icmp_le hx hb hd ht (fun _ => hg ls H locs cells slots hl hr) (fun n => absurd hc n)
    · rename_i hc _
      obtain ⟨hp, hg⟩ := hK _ _ _ _ ee
      refine ⟨hp, fun ls H locs cells slots hl hr => ?_⟩
      have hh := hg ls H locs cells slots hl hr
      cases q <;> first
        | exact lv_icmp_eq hx hb hd ht (fun n => absurd n hc) (fun _ => hh)
        | exact lv_icmp_ne hx hb hd ht (fun n => absurd n hc) (fun _ => hh)
        | exact lv_icmp_ne hx hb hd ht (fun n => absurd n hc) (fun _ => hh)
        | exact lv_icmp_lt hx hb hd ht (fun n => absurd n hc) (fun _ => hh)
        | exact lv_icmp_ge hx hb hd ht (fun n => absurd n hc) (fun _ => hh)
        | exact lv_icmp_gt hx hb hd ht (fun n => absurd n hc) (fun _ => hh)
        | exact lv_icmp_le hx hb hd ht (fun n => absurd n hc) (fun _ => hh)
  · cases ee
end SOUND
end
section
-- switches, fields, arrays, new cells, returns
section SOUND2
variable {p : Program} {l : Launch} {e : Env} {R : Room} {s : State} {m : MethodId} {args : Array Value} {below : List Frame} {meth : Method} {c : Code} {Q : State → Prop} {y base b : Nat} {dA : Nat → ClassId} {D : va_G} {n0 z0 : Nat} {sc : List Int32} {r : Option Value} {h' : List ms_C} {K : ms_KT} {CA : ms_CT} {pc : Nat} {L : List (Option Value)} {S : List Value} {h : List ms_C}
theorem so_tableswitch (C : ms_Ctx p R s m args meth c y base b dA D n0 z0 sc h') (hK : ∀ pc L S h, K pc L S h = some (r, h') → ms_P h h' ∧ ms_Go p l e R s m args below meth c Q y base b dA D n0 z0 pc L S h) {d lo hi : Int} {os : Array Int} {len : Nat} (hd : decode (ms_B y) pc = .ok (.tableswitch d lo hi os, len)) (ee : ms_step sc y pc K CA (.tableswitch d lo hi os) L S h = some (r, h')) : ms_P h h' ∧ ms_Go p l e R s m args below meth c Q y base b dA D n0 z0 pc L S h := by
  obtain ⟨hx, hb, hml, hown, hts, hK0, hin, hF, hW, hX, hrc, hrs, hs0⟩ := C
  simp only [ms_step] at ee
  split at ee
  · split at ee
    · rename_i hout
      obtain ⟨t, ht, ee⟩ := ms_go_some ee
      obtain ⟨hp, hg⟩ := hK _ _ _ _ ee
      exact ⟨hp, fun ls H locs cells slots hl hr => lv_tableOut hx hb hd hout ht (hg ls H locs cells slots hl hr)⟩
    · rename_i hout
      split at ee
      · rename_i o ho
        obtain ⟨t, ht, ee⟩ := ms_go_some ee
        obtain ⟨hp, hg⟩ := hK _ _ _ _ ee
        exact ⟨hp, fun ls H locs cells slots hl hr => lv_tableIn hx hb hd (fun n => hout (Or.inl n)) (fun n => hout (Or.inr n)) ho ht (hg ls H locs cells slots hl hr)⟩
      · cases ee
  · cases ee
theorem so_lookupswitch (C : ms_Ctx p R s m args meth c y base b dA D n0 z0 sc h') (hK : ∀ pc L S h, K pc L S h = some (r, h') → ms_P h h' ∧ ms_Go p l e R s m args below meth c Q y base b dA D n0 z0 pc L S h) {d : Int} {ps : Array (Int × Int)} {len : Nat} (hd : decode (ms_B y) pc = .ok (.lookupswitch d ps, len)) (ee : ms_step sc y pc K CA (.lookupswitch d ps) L S h = some (r, h')) : ms_P h h' ∧ ms_Go p l e R s m args below meth c Q y base b dA D n0 z0 pc L S h := by
  obtain ⟨hx, hb, hml, hown, hts, hK0, hin, hF, hW, hX, hrc, hrs, hs0⟩ := C
  simp only [ms_step] at ee
  split at ee
  · split at ee
    · rename_i hs
      obtain ⟨t, ht, ee⟩ := ms_go_some ee
      obtain ⟨hp, hg⟩ := hK _ _ _ _ ee
      exact ⟨hp, fun ls H locs cells slots hl hr => lv_lookup hx hb hd hs rfl ht (hg ls H locs cells slots hl hr)⟩
    · cases ee
  · cases ee
theorem ms_get_some {h : List ms_C} {a ci k : Nat} {v : Value} (e : ms_get h a ci k = some v) : ∃ fs, h[a]? = some (.inl (ci, fs)) ∧ fs[k]? = some v := by
  unfold ms_get at e
  split at e
  · rename_i cj fs hh
    split at e
    · rename_i hc
      subst hc
      exact ⟨fs, hh, e⟩
    · cases e
  · cases e
theorem so_getfield (C : ms_Ctx p R s m args meth c y base b dA D n0 z0 sc h') (hK : ∀ pc L S h, K pc L S h = some (r, h') → ms_P h h' ∧ ms_Go p l e R s m args below meth c Q y base b dA D n0 z0 pc L S h) {i : Nat} (hd : decode (ms_B y) pc = .ok (.getfield i, 3)) (ee : ms_step sc y pc K CA (.getfield i) L S h = some (r, h')) : ms_P h h' ∧ ms_Go p l e R s m args below meth c Q y base b dA D n0 z0 pc L S h := by
  obtain ⟨hx, hb, hml, hown, hts, hK0, hin, hF, hW, hX, hrc, hrs, hs0⟩ := C
  simp only [ms_step] at ee
  split at ee
  · rename_i a S1
    split at ee
    · rename_i ci k hf
      split at ee
      · rename_i v hv
        obtain ⟨hp, hg⟩ := hK _ _ _ _ ee
        obtain ⟨q, hq, hk, hw⟩ := gd_fl hf
        obtain ⟨fs, hfs, hfk⟩ := ms_get_some hv
        refine ⟨hp, fun ls H locs cells slots hl hr => ?_⟩
        exact va_get (D := D) (ci := ci) (v := ms_tv base b v) (C := q.1) (T := q.2.1) (N := q.2.2) hx hb hts (ms_uws ci q hq) hown hK0.1 hr.2.2.2.2.1 a (ms_ws_get hfs) hq k hk (hts _ hw) (fun _ h9 => h9) (by rw [List.getElem?_map, hfk]; rfl) hd (hg ls H locs cells slots hl hr)
      · cases ee
    · cases ee
  · cases ee
theorem ms_fit_ok {ci : Nat} {q : vw_C} (hq : vwCl[ci]? = some q) {k : Nat} (hk : k < q.2.2) {v : Value} (hf : ms_fit (q.2.1 k).2.2.1 v = true) (base b : Nat) : narrow (ms_ty0 ci k) (ms_tv base b v) = ms_tv base b v ∧ fits (ms_ty0 ci k) (ms_tv base b v) = true := by
  have h1 := ms_kindk ci q hq k hk
  cases v with
  | int x =>
    have hi : (q.2.1 k).2.2.1 = "I" := by simpa [ms_fit] using hf
    rw [if_pos hi] at h1
    rw [of_decide_eq_true h1]
    exact ⟨rfl, rfl⟩
  | ref x =>
    have hi : ¬ (q.2.1 k).2.2.1 = "I" := by simpa [ms_fit] using hf
    rw [if_neg hi] at h1
    cases ht : ms_ty0 ci k with
    | array t => exact ⟨rfl, rfl⟩
    | object t => exact ⟨rfl, rfl⟩
    | _ => rw [ht] at h1; cases h1
  | _ => simp [ms_fit] at hf
/-- a cell of the small heap put anew: what its row gives is the relation again -/
theorem ms_put {h : List ms_C} {H H1 : Heap} {locs locs1 : List Loc} {cells slots : Nat} {a : Nat} {x z : ms_C} (hr : ms_Rel base b dA D n0 z0 h s H locs cells slots) (hz : h[a]? = some z) (hsz : ms_cs x = ms_cs z)
    (hP1 : va_P D vwCl ((ms_ws base b dA h).set a (base + a, ms_te base b dA x)) H1) (hS1 : va_S (ms_Ad base) H H1 locs1) (hb1 : H1.size ≤ s.heap.size + cells) : ms_Rel base b dA D n0 z0 (h.set a x) s H1 locs1 cells slots := by
  obtain ⟨r1, r2, r3, r4, r5, r6⟩ := hr
  have := hS1.1
  refine ⟨by simp; omega, by simpa using r2, r3, by rw [ms_sz_set hz hsz]; exact r4, by rw [← ms_ws_set]; exact hP1, ms_S1 r6 hS1⟩
theorem so_putfield (C : ms_Ctx p R s m args meth c y base b dA D n0 z0 sc h') (hK : ∀ pc L S h, K pc L S h = some (r, h') → ms_P h h' ∧ ms_Go p l e R s m args below meth c Q y base b dA D n0 z0 pc L S h) {i : Nat} (hd : decode (ms_B y) pc = .ok (.putfield i, 3)) (ee : ms_step sc y pc K CA (.putfield i) L S h = some (r, h')) : ms_P h h' ∧ ms_Go p l e R s m args below meth c Q y base b dA D n0 z0 pc L S h := by
  obtain ⟨hx, hb, hml, hown, hts, hK0, hin, hF, hW, hX, hrc, hrs, hs0⟩ := C
  simp only [ms_step] at ee
  split at ee
  · rename_i v a S1
    split at ee
    · rename_i ci k hf
      split at ee
      · rename_i C0 T0 N0 cj fs hv hfs
        split at ee
        · rename_i hc
          obtain ⟨hc1, hc2, hc3, hc4, hc5⟩ := hc
          subst hc1
          obtain ⟨q, hq, hk, hw⟩ := gd_fl hf
          have hqe : q = (C0, T0, N0) := Option.some.inj (hq.symm.trans hv)
          subst hqe
          obtain ⟨hp, hg⟩ := hK _ _ _ _ ee
          have hcs : ms_cs (.inl (cj, fs.set k v)) = ms_cs (.inl (cj, fs)) := by simp [ms_cs]
          refine ⟨hp.st hfs hcs, fun ls H locs cells slots hl hr => ?_⟩
          have hft := ms_fit_ok hq hk hc4 base b
          have hty := ms_tyk cj _ hq
          have hnm := ms_nmk cj _ hq
          have ex : ∀ H1 locs1, va_P D vwCl ((ms_ws base b dA h).set a (base + a, .inr (cj, (fs.map (ms_tv base b)).set k (ms_tv base b v)))) H1 → va_S (ms_Ad base) H H1 locs1 → H1.size ≤ s.heap.size + cells → W p l e R s m args below meth c H1 locs1 cells slots Q (F0 m (pc + 3) ls (S1.map (ms_tv base b))) := by
            intro H1 locs1 hP1 hS1 hb1
            refine hg ls H1 locs1 cells slots hl (ms_put hr hfs hcs ?_ hS1 hb1)
            simpa [ms_te, List.map_set] using hP1
          by_cases hfin : (T0 k).2.2.2 = false
          · exact va_put (D := D) (ci := cj) (v := ms_tv base b v) (ty := ms_ty0 cj k) (C := C0) (T := T0) (N := N0) hx hb hts (ms_uws cj _ hq) (ms_ty0 cj) hty hnm hown hK0.1 hr.2.2.2.2.1 (A := ms_Ad base) ms_D (ms_S0 hr.2.2.2.2.2) a (ms_ws_get hfs) hq k hk (hts _ hw) (fun _ h9 => h9) hfin (hty k hk) hft.1 hft.2 (by simpa using hc3) hd (fun H1 locs1 hP1 hD1 hS1 => ms_bound (fun hb1 => ex H1 locs1 hP1 hS1 hb1))
          · obtain ⟨hn1, hn2⟩ := hc5.resolve_left hfin
            exact va_putF (D := D) (ci := cj) (v := ms_tv base b v) (ty := ms_ty0 cj k) (C := C0) (T := T0) (N := N0) hx hb hts (ms_uws cj _ hq) (ms_ty0 cj) hty hnm hown hK0.1 hr.2.2.2.2.1 (A := ms_Ad base) ms_D (ms_S0 hr.2.2.2.2.2) a (ms_ws_get hfs) hq k hk (hts _ hw) (fun _ h9 => h9) (by simpa using hfin) (hin hn1) hn2 (hty k hk) hft.1 hft.2 (by simpa using hc3) hd (fun H1 locs1 hP1 hD1 hS1 => ms_bound (fun hb1 => ex H1 locs1 hP1 hS1 hb1))
        · cases ee
      · cases ee
    · cases ee
  · cases ee
theorem so_iaload (C : ms_Ctx p R s m args meth c y base b dA D n0 z0 sc h') (hK : ∀ pc L S h, K pc L S h = some (r, h') → ms_P h h' ∧ ms_Go p l e R s m args below meth c Q y base b dA D n0 z0 pc L S h)  (hd : decode (ms_B y) pc = .ok (.iaload, 1)) (ee : ms_step sc y pc K CA (.iaload) L S h = some (r, h')) : ms_P h h' ∧ ms_Go p l e R s m args below meth c Q y base b dA D n0 z0 pc L S h := by
  obtain ⟨hx, hb, hml, hown, hts, hK0, hin, hF, hW, hX, hrc, hrs, hs0⟩ := C
  simp only [ms_step] at ee
  split at ee
  · rename_i i a S1
    split at ee
    · rename_i l1 hh
      split at ee
      · rename_i j hj
        obtain ⟨hi, rfl⟩ := ms_iat_some hj
        obtain ⟨hp, hg⟩ := hK _ _ _ _ ee
        exact ⟨hp, fun ls H locs cells slots hl hr => va_iald (D := D) hx hb hK0.1 hr.2.2.2.2.1 a 0 (ms_ws_get hh) rfl hi hd (hg ls H locs cells slots hl hr)⟩
      · cases ee
    · cases ee
  · rename_i i x S1
    split at ee
    · rename_i j hj
      obtain ⟨hi, rfl⟩ := ms_iat_some hj
      obtain ⟨hp, hg⟩ := hK _ _ _ _ ee
      exact ⟨hp, fun ls H locs cells slots hl hr => va_sld hx hb hX.1 (by have := hX.2; omega) (by have := hX.2; show ¬ base ≤ b; omega) hr.2.2.2.2.2 hi hd (hg ls H locs cells slots hl hr)⟩
    · cases ee
  · cases ee
theorem so_caload (C : ms_Ctx p R s m args meth c y base b dA D n0 z0 sc h') (hK : ∀ pc L S h, K pc L S h = some (r, h') → ms_P h h' ∧ ms_Go p l e R s m args below meth c Q y base b dA D n0 z0 pc L S h)  (hd : decode (ms_B y) pc = .ok (.caload, 1)) (ee : ms_step sc y pc K CA (.caload) L S h = some (r, h')) : ms_P h h' ∧ ms_Go p l e R s m args below meth c Q y base b dA D n0 z0 pc L S h := by
  obtain ⟨hx, hb, hml, hown, hts, hK0, hin, hF, hW, hX, hrc, hrs, hs0⟩ := C
  simp only [ms_step] at ee
  split at ee
  · rename_i i a S1
    split at ee
    · rename_i l1 hh
      split at ee
      · rename_i j hj
        obtain ⟨hi, rfl⟩ := ms_iat_some hj
        obtain ⟨hp, hg⟩ := hK _ _ _ _ ee
        exact ⟨hp, fun ls H locs cells slots hl hr => va_cald (D := D) hx hb hK0.1 hr.2.2.2.2.1 a 1 (ms_ws_get hh) rfl hi hd (hg ls H locs cells slots hl hr)⟩
      · cases ee
    · cases ee
  · cases ee
theorem ms_upd {l : List Int32} {j : Nat} (x : Int32) (hj : j < l.length) : (fun i => (l.set j x).getD i 0) = upd (fun i => l.getD i 0) j x := by
  funext i
  by_cases hi : i = j
  · subst hi
    simp [upd, hj]
  · simp [upd, hi, List.getD_eq_getElem?_getD, List.getElem?_set, Ne.symm hi]
theorem ms_in_lt {i : Int32} {n : Nat} (h : vp_in i n) : i.toNatClampNeg < n := Nat.not_le.mp fun q => h (Or.inr q)
theorem so_iastore (C : ms_Ctx p R s m args meth c y base b dA D n0 z0 sc h') (hK : ∀ pc L S h, K pc L S h = some (r, h') → ms_P h h' ∧ ms_Go p l e R s m args below meth c Q y base b dA D n0 z0 pc L S h)  (hd : decode (ms_B y) pc = .ok (.iastore, 1)) (ee : ms_step sc y pc K CA (.iastore) L S h = some (r, h')) : ms_P h h' ∧ ms_Go p l e R s m args below meth c Q y base b dA D n0 z0 pc L S h := by
  obtain ⟨hx, hb, hml, hown, hts, hK0, hin, hF, hW, hX, hrc, hrs, hs0⟩ := C
  simp only [ms_step] at ee
  split at ee
  · rename_i x i a S1
    split at ee
    · rename_i l1 hh
      split at ee
      · rename_i j hj
        obtain ⟨hi, rfl⟩ := ms_iat_some hj
        obtain ⟨hp, hg⟩ := hK _ _ _ _ ee
        have hcs : ms_cs (.inr (.inl (false, l1.set i.toNatClampNeg x))) = ms_cs (.inr (.inl (false, l1))) := by simp [ms_cs]
        refine ⟨hp.st hh hcs, fun ls H locs cells slots hl hr => ?_⟩
        refine va_iast (D := D) hx hb hK0.1 hr.2.2.2.2.1 (A := ms_Ad base) ms_D (ms_S0 hr.2.2.2.2.2) a 0 (ms_ws_get hh) rfl hi hd (fun H1 locs1 hP1 hD1 hS1 => ms_bound (fun hb1 => ?_))
        refine hg ls H1 locs1 cells slots hl (ms_put hr hh hcs ?_ hS1 hb1)
        have hu := ms_upd (l := l1) x (ms_in_lt hi)
        simp only [ms_te, List.length_set]
        rw [hu]
        exact hP1
      · cases ee
    · cases ee
  · cases ee
theorem so_castore (C : ms_Ctx p R s m args meth c y base b dA D n0 z0 sc h') (hK : ∀ pc L S h, K pc L S h = some (r, h') → ms_P h h' ∧ ms_Go p l e R s m args below meth c Q y base b dA D n0 z0 pc L S h)  (hd : decode (ms_B y) pc = .ok (.castore, 1)) (ee : ms_step sc y pc K CA (.castore) L S h = some (r, h')) : ms_P h h' ∧ ms_Go p l e R s m args below meth c Q y base b dA D n0 z0 pc L S h := by
  obtain ⟨hx, hb, hml, hown, hts, hK0, hin, hF, hW, hX, hrc, hrs, hs0⟩ := C
  simp only [ms_step] at ee
  split at ee
  · rename_i x i a S1
    split at ee
    · rename_i l1 hh
      split at ee
      · rename_i j hj
        obtain ⟨hi, rfl⟩ := ms_iat_some hj
        obtain ⟨hp, hg⟩ := hK _ _ _ _ ee
        have hcs : ms_cs (.inr (.inl (true, l1.set i.toNatClampNeg (vp_nar .char x)))) = ms_cs (.inr (.inl (true, l1))) := by simp [ms_cs]
        refine ⟨hp.st hh hcs, fun ls H locs cells slots hl hr => ?_⟩
        refine va_cast (D := D) hx hb hK0.1 hr.2.2.2.2.1 (A := ms_Ad base) ms_D (ms_S0 hr.2.2.2.2.2) a 1 (ms_ws_get hh) rfl hi hd (fun H1 locs1 hP1 hD1 hS1 => ms_bound (fun hb1 => ?_))
        refine hg ls H1 locs1 cells slots hl (ms_put hr hh hcs ?_ hS1 hb1)
        have hu := ms_upd (l := l1) (vp_nar .char x) (ms_in_lt hi)
        simp only [ms_te, List.length_set]
        rw [hu]
        exact hP1
      · cases ee
    · cases ee
  · cases ee
theorem ms_rf (q : Option Nat) (base : Nat) : va_rf (q.map (fun i => base + i)) = match q with
    | some i => Value.ref (base + i)
    | none => Value.null := by cases q <;> rfl
theorem ms_upq {l : List (Option Nat)} {j : Nat} (x : Nat) (hj : j < l.length) (base : Nat) : (fun i => ((l.set j (some x)).getD i none).map (fun i => base + i)) = va_up (fun i => (l.getD i none).map (fun i => base + i)) j (some (base + x)) := by
  funext i
  by_cases hi : i = j
  · subst hi
    simp [va_up, hj]
  · simp [va_up, hi, List.getD_eq_getElem?_getD, List.getElem?_set, Ne.symm hi]
theorem so_aaload (C : ms_Ctx p R s m args meth c y base b dA D n0 z0 sc h') (hK : ∀ pc L S h, K pc L S h = some (r, h') → ms_P h h' ∧ ms_Go p l e R s m args below meth c Q y base b dA D n0 z0 pc L S h)  (hd : decode (ms_B y) pc = .ok (.aaload, 1)) (ee : ms_step sc y pc K CA (.aaload) L S h = some (r, h')) : ms_P h h' ∧ ms_Go p l e R s m args below meth c Q y base b dA D n0 z0 pc L S h := by
  obtain ⟨hx, hb, hml, hown, hts, hK0, hin, hF, hW, hX, hrc, hrs, hs0⟩ := C
  simp only [ms_step] at ee
  split at ee
  · rename_i i a S1
    split at ee
    · rename_i l1 hh
      split at ee
      · rename_i j hj
        obtain ⟨hi, rfl⟩ := ms_iat_some hj
        split at ee
        · rename_i q hq
          obtain ⟨hp, hg⟩ := hK _ _ _ _ ee
          refine ⟨hp, fun ls H locs cells slots hl hr => va_aldq (D := D) hx hb hK0.1 hr.2.2.2.2.1 a 2 (ms_ws_get hh) rfl hi hd ?_⟩
          have := hg ls H locs cells slots hl hr
          rw [show va_rf ((l1.getD i.toNatClampNeg none).map (fun i => base + i)) = Value.ref (base + q) by rw [hq]; rfl]
          exact this
        · cases ee
      · cases ee
    · cases ee
  · cases ee
theorem so_aastore (C : ms_Ctx p R s m args meth c y base b dA D n0 z0 sc h') (hK : ∀ pc L S h, K pc L S h = some (r, h') → ms_P h h' ∧ ms_Go p l e R s m args below meth c Q y base b dA D n0 z0 pc L S h)  (hd : decode (ms_B y) pc = .ok (.aastore, 1)) (ee : ms_step sc y pc K CA (.aastore) L S h = some (r, h')) : ms_P h h' ∧ ms_Go p l e R s m args below meth c Q y base b dA D n0 z0 pc L S h := by
  obtain ⟨hx, hb, hml, hown, hts, hK0, hin, hF, hW, hX, hrc, hrs, hs0⟩ := C
  simp only [ms_step] at ee
  split at ee
  · rename_i q i a S1
    split at ee
    · rename_i l1 fs hh hq
      split at ee
      · rename_i j hj
        obtain ⟨hi, rfl⟩ := ms_iat_some hj
        obtain ⟨hp, hg⟩ := hK _ _ _ _ ee
        have hcs : ms_cs (.inr (.inr (l1.set i.toNatClampNeg (some q)))) = ms_cs (.inr (.inr l1)) := by simp [ms_cs]
        refine ⟨hp.st hh hcs, fun ls H locs cells slots hl hr => ?_⟩
        refine va_astq (D := D) (r := (RX4, TX4, 11)) hx hb hK0.1 hr.2.2.2.2.1 (A := ms_Ad base) ms_D (ms_S0 hr.2.2.2.2.2) a 2 q 4 (ms_ws_get hh) rfl (ms_ws_get hq) rfl hi hd (fun H1 locs1 hP1 hD1 hS1 => ms_bound (fun hb1 => ?_))
        refine hg ls H1 locs1 cells slots hl (ms_put hr hh hcs ?_ hS1 hb1)
        have hu := ms_upq (l := l1) q (ms_in_lt hi) base
        simp only [ms_te, List.length_set]
        rw [hu]
        exact hP1
      · cases ee
    · cases ee
  · cases ee
theorem so_arraylength (C : ms_Ctx p R s m args meth c y base b dA D n0 z0 sc h') (hK : ∀ pc L S h, K pc L S h = some (r, h') → ms_P h h' ∧ ms_Go p l e R s m args below meth c Q y base b dA D n0 z0 pc L S h)  (hd : decode (ms_B y) pc = .ok (.arraylength, 1)) (ee : ms_step sc y pc K CA (.arraylength) L S h = some (r, h')) : ms_P h h' ∧ ms_Go p l e R s m args below meth c Q y base b dA D n0 z0 pc L S h := by
  obtain ⟨hx, hb, hml, hown, hts, hK0, hin, hF, hW, hX, hrc, hrs, hs0⟩ := C
  simp only [ms_step] at ee
  split at ee
  · rename_i a S1
    split at ee
    · rename_i ch l1 hh
      obtain ⟨hp, hg⟩ := hK _ _ _ _ ee
      refine ⟨hp, fun ls H locs cells slots hl hr => ?_⟩
      cases ch with
      | false => exact va_alen (D := D) hx hb hK0.1 hr.2.2.2.2.1 a 0 (ms_ws_get hh) rfl rfl hd (hg ls H locs cells slots hl hr)
      | true => exact va_alen (D := D) hx hb hK0.1 hr.2.2.2.2.1 a 1 (ms_ws_get hh) rfl rfl hd (hg ls H locs cells slots hl hr)
    · rename_i l1 hh
      obtain ⟨hp, hg⟩ := hK _ _ _ _ ee
      exact ⟨hp, fun ls H locs cells slots hl hr => va_alen (D := D) hx hb hK0.1 hr.2.2.2.2.1 a 2 (ms_ws_get hh) rfl rfl hd (hg ls H locs cells slots hl hr)⟩
    · cases ee
  · obtain ⟨hp, hg⟩ := hK _ _ _ _ ee
    exact ⟨hp, fun ls H locs cells slots hl hr => va_slen hx hb hX.1 (by have := hX.2; omega) (by have := hX.2; show ¬ base ≤ b; omega) hr.2.2.2.2.2 hd (hg ls H locs cells slots hl hr)⟩
  · cases ee
/-- a new cell behind the others -/
theorem ms_push {h : List ms_C} {H H1 : Heap} {locs locs1 : List Loc} {cells slots q : Nat} {x : ms_C} (hr : ms_Rel base b dA D n0 z0 h s H locs cells slots)
    (hP1 : va_P D vwCl (ms_ws base b dA h ++ [(q, ms_te base b dA x)]) H1) (hD1 : va_D (ms_Ad base) (ms_ws base b dA h ++ [(q, ms_te base b dA x)])) (hS1 : va_S (ms_Ad base) s.heap H1 locs1) (hb1 : H1.size ≤ s.heap.size + (cells + 1)) : q = base + h.length ∧ ms_Rel base b dA D n0 z0 (h ++ [x]) s H1 locs1 (cells + 1) (slots + ms_cs x) := by
  obtain ⟨r1, r2, r3, r4, r5, r6⟩ := hr
  have hlen : (ms_ws base b dA h).length = h.length := by simp [ms_ws]
  have hg : (ms_ws base b dA h ++ [(q, ms_te base b dA x)])[h.length]? = some (q, ms_te base b dA x) := by
    rw [List.getElem?_append_right (by omega), hlen]; simp
  have hq1 : q < H1.size := (hP1 _ _ hg).lt
  have hq2 : base ≤ q := hD1.2 _ _ hg
  have hq3 : ¬ q < base + h.length := by
    intro hlt
    obtain ⟨i, hi⟩ : ∃ i, q = base + i := ⟨q - base, by omega⟩
    have hil : i < h.length := by omega
    have hgi : (ms_ws base b dA h ++ [(q, ms_te base b dA x)])[i]? = some (base + i, ms_te base b dA h[i]) := by
      rw [List.getElem?_append_left (by omega)]
      exact ms_ws_get (List.getElem?_eq_getElem hil)
    have := hD1.1 i h.length _ _ hgi hg hi.symm
    omega
  have hq : q = base + h.length := by omega
  refine ⟨hq, by simp; omega, by simp; omega, r3, by rw [ms_sz_app]; omega, ?_, hS1⟩
  rw [ms_ws_app, ← hq]
  exact hP1
theorem ms_cls_int {s : State} {q dI : ClassId} {ty : FieldType} (h1 : va_RA s q ty) (h2 : va_RA s dI ty) : q = dI := by
  cases ty with
  | object C =>
    obtain ⟨_, _, _, _, _, a⟩ := h1
    obtain ⟨_, _, _, _, _, a'⟩ := h2
    exact Option.some.inj (a.symm.trans a')
  | _ => exact Option.some.inj ((show s.vm.findClass _ = some q from h1).symm.trans h2)
theorem so_newarray (C : ms_Ctx p R s m args meth c y base b dA D n0 z0 sc h') (hK : ∀ pc L S h, K pc L S h = some (r, h') → ms_P h h' ∧ ms_Go p l e R s m args below meth c Q y base b dA D n0 z0 pc L S h) {t : ArrayType} (hd : decode (ms_B y) pc = .ok (.newarray t, 2)) (ee : ms_step sc y pc K CA (.newarray t) L S h = some (r, h')) : ms_P h h' ∧ ms_Go p l e R s m args below meth c Q y base b dA D n0 z0 pc L S h := by
  obtain ⟨hx, hb, hml, hown, hts, hK0, hin, hF, hW, hX, hrc, hrs, hs0⟩ := C
  simp only [ms_step] at ee
  split at ee
  · rename_i n S1
    split at ee
    · cases ee
    rename_i hn
    split at ee
    · have hp0 := (hK _ _ _ _ ee).1
      have hg := (hK _ _ _ _ ee).2
      refine ⟨hp0.ap, fun ls H locs cells slots hl hr => ?_⟩
      obtain ⟨g1, g2⟩ := hp0
      rw [ms_sz_app] at g2
      simp only [List.length_append, List.length_cons, List.length_nil, ms_cs, List.length_replicate] at g1 g2
      have r2 := hr.2.1
      have r4 := hr.2.2.2.1
      refine va_newa (D := D) (atype := .int) (ty := .int) (a0 := (n.toNatClampNeg, .inl (fun _ => 0))) hx hb (hts _ gd_ar.1) rfl hK0.1 hr.2.2.2.2.1 (A := ms_Ad base) ms_D hr.2.2.2.2.2 (fun q hq => by show base ≤ q; omega) (fun _ => rfl) (fun q => hn (Or.inl q)) rfl (by have : ¬ 1000 < n.toNatClampNeg := fun q => hn (Or.inr q); simp only [componentBytes]; omega) (by omega) (by omega) hd (fun q cA H1 hK1 hP1 hD1 hS1 => ms_bound (fun hb1 => ?_))
      have hcA : cA = dA 0 := ms_cls_int (hK1.2 3 _ rfl).2 (hK0.1.2 0 _ rfl).2
      subst hcA
      have hte : ((n.toNatClampNeg, .inl (fun _ => 0)) : vp_A) = (n.toNatClampNeg, .inl (fun j => (List.replicate n.toNatClampNeg (0 : Int32)).getD j 0)) := by
        congr 2
        funext j
        by_cases hj : j < n.toNatClampNeg <;> simp [hj]
      have hx2 := ms_push (x := .inr (.inl (false, List.replicate n.toNatClampNeg 0))) hr (q := q) (H1 := H1) (by simpa [ms_te, hte] using hP1) (by simpa [ms_te, hte] using hD1) hS1 hb1
      obtain ⟨rfl, hr1⟩ := hx2
      have := hg ls H1 locs (cells + 1) (slots + n.toNatClampNeg) hl (by simpa [ms_cs] using hr1)
      exact this
    · have hp0 := (hK _ _ _ _ ee).1
      have hg := (hK _ _ _ _ ee).2
      refine ⟨hp0.ap, fun ls H locs cells slots hl hr => ?_⟩
      obtain ⟨g1, g2⟩ := hp0
      rw [ms_sz_app] at g2
      simp only [List.length_append, List.length_cons, List.length_nil, ms_cs, List.length_replicate] at g1 g2
      have r2 := hr.2.1
      have r4 := hr.2.2.2.1
      refine va_newa (D := D) (atype := .char) (ty := .char) (a0 := (n.toNatClampNeg, .inl (fun _ => 0))) hx hb (hts _ gd_ar.2.1) rfl hK0.1 hr.2.2.2.2.1 (A := ms_Ad base) ms_D hr.2.2.2.2.2 (fun q hq => by show base ≤ q; omega) (fun _ => rfl) (fun q => hn (Or.inl q)) rfl (by have : ¬ 1000 < n.toNatClampNeg := fun q => hn (Or.inr q); simp only [componentBytes]; omega) (by omega) (by omega) hd (fun q cA H1 hK1 hP1 hD1 hS1 => ms_bound (fun hb1 => ?_))
      have hcA : cA = dA 1 := ms_cls_int (hK1.2 3 _ rfl).2 (hK0.1.2 1 _ rfl).2
      subst hcA
      have hte : ((n.toNatClampNeg, .inl (fun _ => 0)) : vp_A) = (n.toNatClampNeg, .inl (fun j => (List.replicate n.toNatClampNeg (0 : Int32)).getD j 0)) := by
        congr 2
        funext j
        by_cases hj : j < n.toNatClampNeg <;> simp [hj]
      have hx2 := ms_push (x := .inr (.inl (true, List.replicate n.toNatClampNeg 0))) hr (q := q) (H1 := H1) (by simpa [ms_te, hte] using hP1) (by simpa [ms_te, hte] using hD1) hS1 hb1
      obtain ⟨rfl, hr1⟩ := hx2
      have := hg ls H1 locs (cells + 1) (slots + n.toNatClampNeg) hl (by simpa [ms_cs] using hr1)
      exact this
    · cases ee
  · cases ee
theorem so_anewarray (C : ms_Ctx p R s m args meth c y base b dA D n0 z0 sc h') (hK : ∀ pc L S h, K pc L S h = some (r, h') → ms_P h h' ∧ ms_Go p l e R s m args below meth c Q y base b dA D n0 z0 pc L S h) {i : Nat} (hd : decode (ms_B y) pc = .ok (.anewarray i, 3)) (ee : ms_step sc y pc K CA (.anewarray i) L S h = some (r, h')) : ms_P h h' ∧ ms_Go p l e R s m args below meth c Q y base b dA D n0 z0 pc L S h := by
  obtain ⟨hx, hb, hml, hown, hts, hK0, hin, hF, hW, hX, hrc, hrs, hs0⟩ := C
  simp only [ms_step] at ee
  split at ee
  · rename_i n S1
    split at ee
    · cases ee
    · rename_i hn
      have hp0 := (hK _ _ _ _ ee).1
      have hg := (hK _ _ _ _ ee).2
      have hn4 : ms_n (ms_O y) i = some 4 := Classical.byContradiction fun q => hn (Or.inr (Or.inr q))
      obtain ⟨q4, hq4, hw, -, -, -⟩ := gd_n hn4
      have hqe : q4 = (RX4, TX4, 11) := Option.some.inj (hq4.symm.trans rfl)
      subst hqe
      refine ⟨hp0.ap, fun ls H locs cells slots hl hr => ?_⟩
      obtain ⟨g1, g2⟩ := hp0
      rw [ms_sz_app] at g2
      simp only [List.length_append, List.length_cons, List.length_nil, ms_cs, List.length_replicate] at g1 g2
      have r2 := hr.2.1
      have r4 := hr.2.2.2.1
      refine va_newq (D := D) (C := "MayorsChair$Town") hx hb hown (hts _ hw) hK0.2.1 hK0.1 hr.2.2.2.2.1 (A := ms_Ad base) ms_D hr.2.2.2.2.2 (fun q hq => by show base ≤ q; omega) (fun q => hn (Or.inl q)) rfl (by have : ¬ 1000 < n.toNatClampNeg := fun q => hn (Or.inr (Or.inl q)); omega) (by omega) (by omega) hd (fun q cA H1 hK1 hP1 hD1 hS1 => ms_bound (fun hb1 => ?_))
      have hcA : cA = dA 2 := ms_cls_int (hK1.2 3 _ rfl).2 (hK0.1.2 2 _ rfl).2
      subst hcA
      have hte : ((n.toNatClampNeg, .inr (.inr (.inr (.inr (fun _ => none))))) : vp_A) = (n.toNatClampNeg, .inr (.inr (.inr (.inr (fun j => ((List.replicate n.toNatClampNeg (none : Option Nat)).getD j none).map (fun i => base + i)))))) := by
        congr 5
        funext j
        by_cases hj : j < n.toNatClampNeg <;> simp [hj]
      have hx2 := ms_push (x := .inr (.inr (List.replicate n.toNatClampNeg none))) hr (q := q) (H1 := H1) (by simpa [ms_te, hte] using hP1) (by simpa [ms_te, hte] using hD1) hS1 hb1
      obtain ⟨rfl, hr1⟩ := hx2
      have := hg ls H1 locs (cells + 1) (slots + n.toNatClampNeg) hl (by simpa [ms_cs] using hr1)
      exact this
  · cases ee
theorem so_new (C : ms_Ctx p R s m args meth c y base b dA D n0 z0 sc h') (hK : ∀ pc L S h, K pc L S h = some (r, h') → ms_P h h' ∧ ms_Go p l e R s m args below meth c Q y base b dA D n0 z0 pc L S h) {i : Nat} (hd : decode (ms_B y) pc = .ok (.new i, 3)) (ee : ms_step sc y pc K CA (.new i) L S h = some (r, h')) : ms_P h h' ∧ ms_Go p l e R s m args below meth c Q y base b dA D n0 z0 pc L S h := by
  obtain ⟨hx, hb, hml, hown, hts, hK0, hin, hF, hW, hX, hrc, hrs, hs0⟩ := C
  simp only [ms_step] at ee
  split at ee
  · rename_i ci hci
    have hp0 := (hK _ _ _ _ ee).1
    have hg := (hK _ _ _ _ ee).2
    obtain ⟨q, hq, hw1, hw2, hw3, hdl⟩ := gd_n hci
    refine ⟨hp0.ap, fun ls H locs cells slots hl hr => ?_⟩
    obtain ⟨g1, g2⟩ := hp0
    rw [ms_sz_app] at g2
    simp only [List.length_append, List.length_cons, List.length_nil, ms_cs] at g1 g2
    have r2 := hr.2.1
    have r4 := hr.2.2.2.1
    have hdm : (ms_d ci).map (ms_tv base b) = ms_d ci := by
      have hv := ms_dval ci q hq
      have key : ∀ l : List Value, (∀ v ∈ l, v = .null ∨ v = .int 0) → l.map (ms_tv base b) = l := by
        intro l
        induction l with
        | nil => intro _; rfl
        | cons v t ih =>
          intro h9
          rw [List.map_cons, ih (fun w hw => h9 w (List.mem_cons_of_mem _ hw))]
          rcases h9 v List.mem_cons_self with rfl | rfl <;> rfl
      exact key _ hv
    refine va_new (D := D) (ci := ci) (fs := ms_d ci) (C := q.1) (T := q.2.1) (N := q.2.2) hx hb hts (ms_uws ci q hq) (ms_ty0 ci) (ms_tyk ci q hq) hown (hts _ hw1) (hts _ hw2) (hts _ hw3) hK0.1 hr.2.2.2.2.1 (A := ms_Ad base) ms_D hr.2.2.2.2.2 (fun q hq => by show base ≤ q; omega) hq (fun j hj => ms_dflt ci q hq j hj) (by omega) (by omega) hd (fun q1 H1 hP1 hD1 hS1 => ms_bound (fun hb1 => ?_))
    have hx2 := ms_push (x := .inl (ci, ms_d ci)) hr (q := q1) (H1 := H1) (by simpa [ms_te, hdm] using hP1) (by simpa [ms_te, hdm] using hD1) hS1 hb1
    obtain ⟨rfl, hr1⟩ := hx2
    have := hg ls H1 locs (cells + 1) (slots + (ms_d ci).length) hl (by simpa [ms_cs] using hr1)
    rw [hdl] at this
    exact this
  · cases ee
end SOUND2
end
section
-- calls and returns; the runs
def ms_In (base b : Nat) (dA : Nat → ClassId) (D : va_G) (sc : List Int32) (h : List ms_C) (U : State) : Prop := U.heap.size = base + h.length ∧ va_P D vwCl (ms_ws base b dA h) U.heap ∧ ms_K D dA U ∧ ms_Xs base b sc U
def ms_Out (base b : Nat) (dA : Nat → ClassId) (D : va_G) (r1 : Option Value) (h1 : List ms_C) : Array Value → State → Outcome → State → Prop := fun _ st o t => o = .returned (r1.map (ms_tv base b)) ∧ t.heap.size = base + h1.length ∧ va_P D vwCl (ms_ws base b dA h1) t.heap ∧ va_F (ms_Ad base) st t
def ms_w (z : Nat) : List Cond := Cond.code (ms_Y z) (ms_B z) (ms_L z) (ms_R z) :: lw_good
def ms_Met (l : Launch) (base b : Nat) (dA : Nat → ClassId) (D : va_G) (sc : List Int32) (z : Nat) (vs : List Value) (h : List ms_C) (r1 : Option Value) (h1 : List ms_C) : Prop :=
  Met l (ms_Y z) (ms_w z) ({ frames := ms_F z, cells := h1.length - h.length, slots := ms_sz h1 - ms_sz h, locals := ms_W z }) (va_Pc (vs.map (ms_tv base b)) (ms_In base b dA D sc h)) (ms_Out base b dA D r1 h1) (h1.length - h.length) (ms_sz h1 - ms_sz h) (ms_Ad base)
theorem ms_K.moved {D : va_G} {dA : Nat → ClassId} {u U : State} (hW : u.WarmedH U.vm) (h : ms_K D dA u) : ms_K D dA U :=
  ⟨va_K.moved hW.alike h.1, va_AO.moved hW.alike h.2.1, fun q hq => va_Nw.warmM hW (h.2.2 q hq)⟩
theorem ms_K.same {D : va_G} {dA : Nat → ClassId} {u U : State} (e : u.vm = U.vm) (h : ms_K D dA u) : ms_K D dA U :=
  ⟨va_K.moved (by rw [e]; exact Vm.Alike.refl _) h.1, va_AO.moved (by rw [e]; exact Vm.Alike.refl _) h.2.1, fun q hq => va_Nw.same rfl e (h.2.2 q hq)⟩
theorem ms_blind (base b : Nat) (dA : Nat → ClassId) (D : va_G) (sc : List Int32) (h : List ms_C) (av : List Value) : FrameBlind (va_Pc av (ms_In base b dA D sc h)) := by
  intro a U g mk hq
  obtain ⟨h0, h1, h2, h3, h4⟩ := hq
  exact ⟨h0, h1, h2, ms_K.same (u := U) (U := U.calling g mk a) rfl h3, va_X.moved (u := U) (U := U.calling g mk a) (Vm.Alike.refl U.vm) h4.1, h4.2⟩
theorem ms_take {S : List Value} {n : Nat} {v : Value} (h0 : 0 < n) (h : S[n - 1]? = some v) : S.take n = S.take (n - 1) ++ [v] ∧ S = S.take (n - 1) ++ v :: S.drop n := by
  have h1 : S.take n = S.take (n - 1) ++ [v] := by
    have : n = (n - 1) + 1 := by omega
    rw [this, List.take_succ, Nat.add_sub_cancel, h]
    rfl
  refine ⟨h1, ?_⟩
  have h2 := List.take_append_drop n S
  rw [h1] at h2
  simpa using h2.symm
section SOUND3
variable {p : Program} {l : Launch} {e : Env} {R : Room} {s : State} {m : MethodId} {args : Array Value} {below : List Frame} {meth : Method} {c : Code} {Q : State → Prop} {y base b : Nat} {dA : Nat → ClassId} {D : va_G} {n0 z0 : Nat} {sc : List Int32} {r : Option Value} {h' : List ms_C} {K : ms_KT} {CA : ms_CT} {pc : Nat} {L : List (Option Value)} {S : List Value} {h : List ms_C}
theorem ms_back {mc ms : Nat} {H : Heap} {locs : List Loc} {cells slots : Nat} {ls : Array Slot} {rest st0 : List Value} {a : Array Value} {r1 : Option Value} {h1 : List ms_C} (hr : va_Run p l e R s m args below meth c H locs cells slots mc ms (F0 m pc ls st0) rest (ms_Out base b dA D r1 h1 a) (ms_Ad base)) (hS : va_S (ms_Ad base) s.heap H locs)
    (kk : ∀ (H1 : Heap) (locs1 : List Loc), H1.size = base + h1.length → va_P D vwCl (ms_ws base b dA h1) H1 → va_S (ms_Ad base) s.heap H1 locs1 → W p l e R s m args below meth c H1 locs1 (cells + mc) (slots + ms) Q (F0 m (pc + 3) ls ((r1.map (ms_tv base b)).toList ++ rest))) : W p l e R s m args below meth c H locs cells slots Q (F0 m pc ls st0) := by
  intro T hT X
  obtain ⟨v, st₀, t, T', L, h0, X', hL, e1, e2, ⟨hv, hs, hp, hz, hk⟩, st⟩ := hr T hT X
  have hv := Outcome.returned.inj hv
  subst hv
  rw [h0] at hz hk
  obtain ⟨t2, a1, b1⟩ := kk T'.heap (locs ++ L) (by rw [e1]; exact hs) (by rw [e1]; exact hp)
    ⟨Nat.le_trans hS.1 (by rw [e1]; exact hz), fun q h1 h2 => by rw [e1, hk q (Nat.lt_of_lt_of_le h1 hS.1) h2]; exact hS.2.1 q h1 h2, fun q hq => by
      rcases List.mem_append.mp hq with h | h
      · exact hS.2.2 q h
      · exact hL q h⟩ T' rfl X'
  exact ⟨t2, st t2 a1, b1⟩
theorem ms_call_some {kind z : Nat} {w : ms_Rs} (ee : ms_call y pc K CA kind z L S h = some w) : ∃ r1 h1, ms_A z ≤ S.length ∧ ms_F z + 1 ≤ ms_F y ∧ 8 + (ms_L z + 11) + ms_W z ≤ ms_W y ∧ ((S.drop (ms_A z)).map fun v => v.category).sum ≤ 8 ∧ (ms_args (S.take (ms_A z)).reverse).length ≤ ms_L z ∧ (∀ v ∈ (S.take (ms_A z)).reverse, ∀ x, v ≠ .double x) ∧ CA z (ms_init (S.take (ms_A z)).reverse (ms_L z)) h = some (r1, h1) ∧ K (pc + 3) L (r1.toList ++ S.drop (ms_A z)) h1 = some w := by
  unfold ms_call at ee
  split at ee
  · cases ee
  · rename_i hn
    split at ee
    · rename_i r1 h1 hc
      refine ⟨r1, h1, ?_, ?_, ?_, ?_, ?_, ?_, hc, ee⟩
      · exact Nat.not_lt.mp fun q => hn (Or.inl q)
      · exact Nat.not_lt.mp fun q => hn (Or.inr (Or.inl q))
      · exact Nat.not_lt.mp fun q => hn (Or.inr (Or.inr (Or.inl q)))
      · exact Nat.not_lt.mp fun q => hn (Or.inr (Or.inr (Or.inr (Or.inl q))))
      · exact Nat.not_lt.mp fun q => hn (Or.inr (Or.inr (Or.inr (Or.inr (Or.inl q)))))
      · intro v hv x hx
        have h9 : ¬ (S.take (ms_A z)).all ms_nd = false := fun q => hn (Or.inr (Or.inr (Or.inr (Or.inr (Or.inr q)))))
        have h8 : (S.take (ms_A z)).all ms_nd = true := by simpa using h9
        have := List.all_eq_true.mp h8 v (List.mem_reverse.mp hv)
        rw [hx] at this
        cases this
    · cases ee
theorem ms_cat_map (S : List Value) : ((S.map (ms_tv base b)).map fun v => v.category).sum = (S.map fun v => v.category).sum := by
  rw [List.map_map]
  congr 1
  exact List.map_congr_left (fun v _ => ms_tv_cat base b v)
/-- what every kind of call needs and gives -/
theorem ms_callK (C : ms_Ctx p R s m args meth c y base b dA D n0 z0 sc h') (hK : ∀ pc L S h, K pc L S h = some (r, h') → ms_P h h' ∧ ms_Go p l e R s m args below meth c Q y base b dA D n0 z0 pc L S h)
    (hCA : ∀ z vs h r1 h1, z < 132 → (ms_args vs).length ≤ ms_L z → (∀ v ∈ vs, ∀ x, v ≠ .double x) → CA z (ms_init vs (ms_L z)) h = some (r1, h1) → ms_P h h1 ∧ ms_Met l base b dA D sc z vs h r1 h1) {kind z : Nat} (hz : z < 132) (ee : ms_call y pc K CA kind z L S h = some (r, h'))
    (run : ∀ (H : Heap) (locs : List Loc) (cells slots : Nat) (ls : Array Slot) (r1 : Option Value) (h1 : List ms_C), ms_lv base b ls (ms_L y) L → ms_Rel base b dA D n0 z0 h s H locs cells slots → ms_F z + 1 ≤ ms_F y → 8 + (ms_L z + 11) + ms_W z ≤ ms_W y → ((S.drop (ms_A z)).map fun v => v.category).sum ≤ 8 → ms_A z ≤ S.length → ms_Met l base b dA D sc z (S.take (ms_A z)).reverse h r1 h1 → (cells + (h1.length - h.length) ≤ R.cells ∧ slots + (ms_sz h1 - ms_sz h) ≤ R.slots) →
      (∀ U : State, U.heap = H → s.WarmedH U.vm → va_Pc ((S.take (ms_A z)).reverse.map (ms_tv base b)) (ms_In base b dA D sc h) ((S.take (ms_A z)).reverse.map (ms_tv base b)).toArray U) →
      va_Run p l e R s m args below meth c H locs cells slots (h1.length - h.length) (ms_sz h1 - ms_sz h) (F0 m pc ls (S.map (ms_tv base b))) ((S.drop (ms_A z)).map (ms_tv base b)) (ms_Out base b dA D r1 h1 ((S.take (ms_A z)).reverse.map (ms_tv base b)).toArray) (ms_Ad base)) :
    ms_P h h' ∧ ms_Go p l e R s m args below meth c Q y base b dA D n0 z0 pc L S h := by
  obtain ⟨r1, h1, g1, g2, g3, g4, g5, g6, g7, g8⟩ := ms_call_some ee
  obtain ⟨hp1, hM⟩ := hCA z _ h r1 h1 hz g5 g6 g7
  obtain ⟨hp2, hg⟩ := hK _ _ _ _ g8
  refine ⟨hp1.tr hp2, fun ls H locs cells slots hl hr => ?_⟩
  obtain ⟨hx, hb, hml, hown, hts, hK0, hin, hF, hW, hX, hrc, hrs, hs0⟩ := C
  have r1' := hr.1
  have r2 := hr.2.1
  have r4 := hr.2.2.2.1
  have hp1' := hp1.1
  have hp1'' := hp1.2
  have hp2' := hp2.1
  have hp2'' := hp2.2
  refine ms_back (run H locs cells slots ls r1 h1 hl hr g2 g3 g4 g1 hM ⟨by omega, by omega⟩ ?_) hr.2.2.2.2.2 (fun H1 locs1 a1 a2 a3 => ?_)
  · intro U hU hW
    refine ⟨rfl, by rw [hU]; exact hr.1, by rw [hU]; exact hr.2.2.2.2.1, ms_K.moved hW hK0, ?_, hX.2⟩
    have h9 := hX.1.moved (U := U) hW.alike
    refine h9.kept ?_
    rw [hU]
    exact hr.2.2.2.2.2.2.1 b (by have := hX.2; omega) (by have := hX.2; show ¬ base ≤ b; omega)
  · have h9 := hg ls H1 locs1 (cells + (h1.length - h.length)) (slots + (ms_sz h1 - ms_sz h)) hl ⟨a1, by omega, hs0, by omega, a2, a3⟩
    rw [List.map_append] at h9
    have e9 : (r1.map (ms_tv base b)).toList = r1.toList.map (ms_tv base b) := by cases r1 <;> rfl
    rw [e9]
    exact h9
theorem ms_goodw {z : Nat} (hz : z < 132) : GoodIn lw_good (ms_w z) := ms_good (fun w hw => by
  rcases List.mem_cons.mp hw with rfl | hw
  · exact gd_code hz
  · exact hw)
theorem so_invokestatic (C : ms_Ctx p R s m args meth c y base b dA D n0 z0 sc h') (hK : ∀ pc L S h, K pc L S h = some (r, h') → ms_P h h' ∧ ms_Go p l e R s m args below meth c Q y base b dA D n0 z0 pc L S h)
    (hCA : ∀ z vs h r1 h1, z < 132 → (ms_args vs).length ≤ ms_L z → (∀ v ∈ vs, ∀ x, v ≠ .double x) → CA z (ms_init vs (ms_L z)) h = some (r1, h1) → ms_P h h1 ∧ ms_Met l base b dA D sc z vs h r1 h1) {i : Nat} (hd : decode (ms_B y) pc = .ok (.invokestatic i, 3)) (ee : ms_step sc y pc K CA (.invokestatic i) L S h = some (r, h')) : ms_P h h' ∧ ms_Go p l e R s m args below meth c Q y base b dA D n0 z0 pc L S h := by
  have C0 := C
  obtain ⟨hx, hb, hml, hown, hts, hK0, hin, hF, hW, hX, hrc, hrs, hs0⟩ := C
  simp only [ms_step] at ee
  split at ee
  · rename_i z hz
    have hc := ms_cok hz
    simp only [ms_cb, Bool.and_eq_true, decide_eq_true_eq] at hc
    obtain ⟨⟨⟨c1, c2⟩, c3⟩, c4⟩ := hc
    refine ms_callK C0 hK hCA c1 ee (fun H locs cells slots ls r1 h1 hl hr q1 q2 q3 q4 hM hf hpre => ?_)
    exact va_runS (As := (S.take (ms_A z)).reverse.map (ms_tv base b)) (ws := ms_w z) (Ts := lw_good) ⟨hx, hb, hml, hown, hts⟩ hM
      ⟨callB_of (ms_A z) hts (ms_goodw c1) rfl rfl rfl (hts _ (gd_cls c1).2) (hts _ (gd_ml c2)) ⟨(gd_plain c1).2.1, (gd_plain c1).2.2, c4⟩ ⟨by show ms_F z + 1 ≤ _; omega, by show 8 + (ms_L z + 11) + ms_W z ≤ _; omega⟩, hts _ (gd_sta c3)⟩
      ⟨ms_blind _ _ _ _ _ _ _, hpre⟩ rfl (by simp; omega) hl.1 (by rw [List.map_reverse, List.reverse_reverse, ← List.map_append, List.take_append_drop]) (lv_room (by rw [ms_cat_map]; exact q3)) hd hf
  · rename_i z hz
    have hc := ms_cok hz
    simp only [ms_cb, Bool.and_eq_true, decide_eq_true_eq] at hc
    obtain ⟨⟨⟨c1, c2⟩, c3⟩, c4⟩ := hc
    have hnest : va_Nw (.methodLinkNest (ms_cn (ms_O y)) i (ms_Y z) "MayorsChair") s := hK0.2.2 ((ms_O y, i), z) (List.contains_iff_mem.mp c2)
    refine ms_callK C0 hK hCA c1 ee (fun H locs cells slots ls r1 h1 hl hr q1 q2 q3 q4 hM hf hpre => ?_)
    exact va_runSN (host := "MayorsChair") (As := (S.take (ms_A z)).reverse.map (ms_tv base b)) (ws := ms_w z) (Ts := lw_good) ⟨hx, hb, hml, hown, hts⟩ hM
      ⟨va_cnB (ms_A z) hts (ms_goodw c1) rfl rfl rfl hnest (hts _ (gd_cls c1).2) ⟨(gd_plain c1).2.1, (gd_plain c1).2.2, c4⟩ ⟨by show ms_F z + 1 ≤ _; omega, by show 8 + (ms_L z + 11) + ms_W z ≤ _; omega⟩, hts _ (gd_sta c3), trivial⟩
      ⟨ms_blind _ _ _ _ _ _ _, hpre⟩ rfl (by simp; omega) hl.1 (by rw [List.map_reverse, List.reverse_reverse, ← List.map_append, List.take_append_drop]) (lv_room (by rw [ms_cat_map]; exact q3)) hd hf
  · rename_i z hz
    have hc := ms_cok hz
    simp only [ms_cb] at hc
    split at ee
    · rename_i bb aa S1
      split at ee
      · rename_i hr0
        obtain ⟨hp, hg⟩ := hK _ _ _ _ ee
        refine ⟨hp, fun ls H locs cells slots hl hr => ?_⟩
        have r2 := hr.2.1
        have r4 := hr.2.2.2.1
        have hp1 := hp.1
        have hp2 := hp.2
        exact va_mmax hx hb (by rw [hl.1]; exact hml) hown (hts _ (gd_max hc)) (hts _ gd_mm.1) (hts _ gd_mm.2.2.1) (hts _ gd_mm.2.2.2.1) (by omega) (by rw [ms_cat_map]; omega) (by omega) (by omega) hd (hg ls H locs cells slots hl hr)
      · cases ee
    · cases ee
  · rename_i z hz
    have hc := ms_cok hz
    simp only [ms_cb] at hc
    split at ee
    · rename_i bb aa S1
      split at ee
      · rename_i hr0
        obtain ⟨hp, hg⟩ := hK _ _ _ _ ee
        refine ⟨hp, fun ls H locs cells slots hl hr => ?_⟩
        have r2 := hr.2.1
        have r4 := hr.2.2.2.1
        have hp1 := hp.1
        have hp2 := hp.2
        exact va_mmin hx hb (by rw [hl.1]; exact hml) hown (hts _ (gd_min hc)) (hts _ gd_mm.2.1) (hts _ gd_mm.2.2.1) (hts _ gd_mm.2.2.2.2) (by omega) (by rw [ms_cat_map]; omega) (by omega) (by omega) hd (hg ls H locs cells slots hl hr)
      · cases ee
    · cases ee
  · cases ee
theorem so_invokevirtual (C : ms_Ctx p R s m args meth c y base b dA D n0 z0 sc h') (hK : ∀ pc L S h, K pc L S h = some (r, h') → ms_P h h' ∧ ms_Go p l e R s m args below meth c Q y base b dA D n0 z0 pc L S h)
    (hCA : ∀ z vs h r1 h1, z < 132 → (ms_args vs).length ≤ ms_L z → (∀ v ∈ vs, ∀ x, v ≠ .double x) → CA z (ms_init vs (ms_L z)) h = some (r1, h1) → ms_P h h1 ∧ ms_Met l base b dA D sc z vs h r1 h1) {i : Nat} (hd : decode (ms_B y) pc = .ok (.invokevirtual i, 3)) (ee : ms_step sc y pc K CA (.invokevirtual i) L S h = some (r, h')) : ms_P h h' ∧ ms_Go p l e R s m args below meth c Q y base b dA D n0 z0 pc L S h := by
  have C0 := C
  obtain ⟨hx, hb, hml, hown, hts, hK0, hin, hF, hW, hX, hrc, hrs, hs0⟩ := C
  simp only [ms_step] at ee
  split at ee
  · rename_i z hz
    have hc := ms_cok hz
    simp only [ms_cb, Bool.and_eq_true, decide_eq_true_eq] at hc
    obtain ⟨⟨⟨⟨⟨⟨c1, c2⟩, c3⟩, c4⟩, c5⟩, c6⟩, c7⟩ := hc
    split at ee
    · rename_i a ha
      split at ee
      · rename_i ci fs hfs
        split at ee
        · rename_i hci
          subst hci
          obtain ⟨t1, t2⟩ := ms_take c5 ha
          refine ms_callK C0 hK hCA c1 ee (fun H locs cells slots ls r1 h1 hl hr q1 q2 q3 q4 hM hf hpre => ?_)
          have e1 : (S.take (ms_A z)).reverse.map (ms_tv base b) = Value.ref (base + a) :: (S.take (ms_A z - 1)).reverse.map (ms_tv base b) := by rw [t1]; simp [ms_tv]
          obtain ⟨q, hq⟩ : ∃ q : vw_C, vwCl[ms_O z]? = some q := by
            cases hv : vwCl[ms_O z]? with
            | none => rw [hv] at c7; cases c7
            | some q => exact ⟨q, rfl⟩
          have hq1 : q.1 = (ms_Y z).cls := by rw [hq] at c7; exact Option.some.inj c7
          have hrecv := va_recv hK0.1 hr.2.2.2.2.1 hq (ms_ws_get hfs)
          rw [hq1] at hrecv
          rw [e1] at hpre ⊢
          refine va_runV (As := (S.take (ms_A z - 1)).reverse.map (ms_tv base b)) (b := base + a) (ws := ms_w z) (Ts := lw_good) (C := (ms_Y z).cls) ⟨hx, hb, hml, hown, hts⟩ hM
            ⟨callB_of (ms_A z - 1) hts (ms_goodw c1) rfl rfl rfl (hts _ (gd_cls c1).2) (hts _ (gd_ml c2)) ⟨(gd_plain c1).2.1, (gd_plain c1).2.2, c6⟩ ⟨by show ms_F z + 1 ≤ _; omega, by show 8 + (ms_L z + 11) + ms_W z ≤ _; omega⟩, hts _ (gd_inst c3), hts _ (gd_sel c4)⟩
            ⟨ms_blind _ _ _ _ _ _ _, hrecv, fun U hU hW => ?_⟩ rfl (by simp; omega) hl.1 ?_ (lv_room (by rw [ms_cat_map]; exact q3)) hd hf
          · rw [e1]; exact hpre U hU hW
          · show S.map (ms_tv base b) = _
            conv => lhs; rw [t2]
            simp [ms_tv]
        · cases ee
      · cases ee
    · cases ee
  · cases ee
theorem so_invokespecial (C : ms_Ctx p R s m args meth c y base b dA D n0 z0 sc h') (hK : ∀ pc L S h, K pc L S h = some (r, h') → ms_P h h' ∧ ms_Go p l e R s m args below meth c Q y base b dA D n0 z0 pc L S h)
    (hCA : ∀ z vs h r1 h1, z < 132 → (ms_args vs).length ≤ ms_L z → (∀ v ∈ vs, ∀ x, v ≠ .double x) → CA z (ms_init vs (ms_L z)) h = some (r1, h1) → ms_P h h1 ∧ ms_Met l base b dA D sc z vs h r1 h1) {i : Nat} (hd : decode (ms_B y) pc = .ok (.invokespecial i, 3)) (ee : ms_step sc y pc K CA (.invokespecial i) L S h = some (r, h')) : ms_P h h' ∧ ms_Go p l e R s m args below meth c Q y base b dA D n0 z0 pc L S h := by
  have C0 := C
  obtain ⟨hx, hb, hml, hown, hts, hK0, hin, hF, hW, hX, hrc, hrs, hs0⟩ := C
  simp only [ms_step] at ee
  split at ee
  · rename_i z hz
    have hc := ms_cok hz
    simp only [ms_cb] at hc
    split at ee
    · rename_i a
      split at ee
      · rename_i hroom
        obtain ⟨hp, hg⟩ := hK _ _ _ _ ee
        refine ⟨hp, fun ls H locs cells slots hl hr => ?_⟩
        exact W.objInit hx hb hown (hts _ (gd_ob hc)) (hts _ gd_oi.1) (hts _ gd_oi.2) rfl (by rw [hml]; exact hl.1) rfl hd (by omega) (by show 2 * 0 + 0 + 12 ≤ _; omega) (hg ls H locs cells slots hl hr)
      · cases ee
    · cases ee
  · rename_i z hz
    have hc := ms_cok hz
    simp only [ms_cb, Bool.and_eq_true, decide_eq_true_eq] at hc
    obtain ⟨⟨⟨⟨⟨⟨c1, c2⟩, c3⟩, c4⟩, c5⟩, c6⟩, c7⟩ := hc
    split at ee
    · rename_i a ha
      obtain ⟨t1, t2⟩ := ms_take c6 ha
      refine ms_callK C0 hK hCA c1 ee (fun H locs cells slots ls r1 h1 hl hr q1 q2 q3 q4 hM hf hpre => ?_)
      have e1 : (S.take (ms_A z)).reverse.map (ms_tv base b) = Value.ref (base + a) :: (S.take (ms_A z - 1)).reverse.map (ms_tv base b) := by rw [t1]; simp [ms_tv]
      have hw0 : ms_w z = Cond.code (ms_Y z) (ms_B z) (ms_L z) none :: lw_good := by unfold ms_w; rw [c5]
      rw [e1] at hpre ⊢
      refine va_runI (As := (S.take (ms_A z - 1)).reverse.map (ms_tv base b)) (b := base + a) (ws := ms_w z) (Ts := lw_good) ⟨hx, hb, hml, hown, hts⟩ hM
        ⟨callB_of (ms_A z - 1) hts (ms_goodw c1) hw0 rfl rfl (hts _ (gd_cls c1).2) (hts _ (gd_ml c2)) ⟨(gd_plain c1).2.1, (gd_plain c1).2.2, c7⟩ ⟨by show ms_F z + 1 ≤ _; omega, by show 8 + (ms_L z + 11) + ms_W z ≤ _; omega⟩, c4, hts _ (gd_inst c3)⟩
        ⟨ms_blind _ _ _ _ _ _ _, fun U hU hW => ?_⟩ rfl (by simp; omega) hl.1 ?_ (lv_room (by rw [ms_cat_map]; exact q3)) hd hf
      · rw [e1]; exact hpre U hU hW
      · show S.map (ms_tv base b) = _
        conv => lhs; rw [t2]
        simp [ms_tv]
    · cases ee
  · cases ee
def ms_Ret (y pc : Nat) (r : Option Value) : Prop := (∃ x, r = some (.int x) ∧ decode (ms_B y) pc = .ok (.ireturn, 1) ∧ (ms_R y = some .int ∨ (ms_R y = some .boolean ∧ (x = 0 ∨ x = 1)))) ∨ (r = none ∧ decode (ms_B y) pc = .ok (.return_, 1) ∧ ms_R y = none)
abbrev ms_End (p : Program) (l : Launch) (e : Env) (R : Room) (s : State) (m : MethodId) (args : Array Value) (below : List Frame) (meth : Method) (c : Code) (Q : State → Prop) (y base b : Nat) (dA : Nat → ClassId) (D : va_G) (n0 z0 : Nat) (r : Option Value) (h' : List ms_C) : Prop :=
  ∀ (pc1 : Nat) (ls1 : Array Slot) (H1 : Heap) (locs1 : List Loc) (cells1 slots1 : Nat), ms_Ret y pc1 r → ms_Rel base b dA D n0 z0 h' s H1 locs1 cells1 slots1 → W p l e R s m args below meth c H1 locs1 cells1 slots1 Q (F0 m pc1 ls1 (r.toList.map (ms_tv base b)))
theorem so_ireturn (hend : ms_End p l e R s m args below meth c Q y base b dA D n0 z0 r h') (hd : decode (ms_B y) pc = .ok (.ireturn, 1)) (ee : ms_step sc y pc K CA .ireturn L S h = some (r, h')) : ms_P h h' ∧ ms_Go p l e R s m args below meth c Q y base b dA D n0 z0 pc L S h := by
  simp only [ms_step] at ee
  split at ee
  · rename_i x
    split at ee
    · rename_i hc
      cases ee
      exact ⟨ms_P.rf _, fun ls H locs cells slots hl hr => hend pc ls H locs cells slots (Or.inl ⟨x, rfl, hd, hc⟩) hr⟩
    · cases ee
  · cases ee
theorem so_return (hend : ms_End p l e R s m args below meth c Q y base b dA D n0 z0 r h') (hd : decode (ms_B y) pc = .ok (.return_, 1)) (ee : ms_step sc y pc K CA .return_ L S h = some (r, h')) : ms_P h h' ∧ ms_Go p l e R s m args below meth c Q y base b dA D n0 z0 pc L S h := by
  simp only [ms_step] at ee
  split at ee
  · split at ee
    · rename_i hc
      cases ee
      exact ⟨ms_P.rf _, fun ls H locs cells slots hl hr => hend pc ls H locs cells slots (Or.inr ⟨rfl, hd, hc⟩) hr⟩
    · cases ee
  · cases ee
end SOUND3
end
section
-- the runs of the small machine are the machine's
theorem ms_hd {bs : ByteArray} {pc : Nat} {ins : Instr} {len k : Nat} (hd : decode bs pc = .ok (ins, len)) (hl : (len == k) = true) : decode bs pc = .ok (ins, k) := by
  rw [hd, eq_of_beq hl]
section MONO
variable {y : Nat} {sc : List Int32} {r : Option Value} {h' : List ms_C} {K : ms_KT} {CA : ms_CT} {pc : Nat} {L : List (Option Value)} {S : List Value} {h : List ms_C}
theorem ms_call_mono (hK : ∀ pc L S h, K pc L S h = some (r, h') → ms_P h h') (hCA : ∀ z L0 h r1 h1, CA z L0 h = some (r1, h1) → ms_P h h1) {kind z : Nat} (ee : ms_call y pc K CA kind z L S h = some (r, h')) : ms_P h h' := by
  obtain ⟨r1, h1, g1, g2, g3, g4, g5, g6, g7, g8⟩ := ms_call_some ee
  exact (hCA _ _ _ _ _ g7).tr (hK _ _ _ _ g8)
theorem ms_mset {f : ms_C → ms_C} (hK : ∀ pc L S h, K pc L S h = some (r, h') → ms_P h h') {a : Nat} {x z : ms_C} {pc : Nat} {L : List (Option Value)} {S : List Value} (hz : h[a]? = some z) (hs : ms_cs x = ms_cs z) (ee : K pc L S (h.set a x) = some (r, h')) : ms_P h h' := (hK _ _ _ _ ee).st hz hs
set_option maxHeartbeats 4000000 in
theorem ms_step_mono (hK : ∀ pc L S h, K pc L S h = some (r, h') → ms_P h h') (hCA : ∀ z L0 h r1 h1, CA z L0 h = some (r1, h1) → ms_P h h1) {ins : Instr} (ee : ms_step sc y pc K CA ins L S h = some (r, h')) : ms_P h h' := by
  cases ins
  case putfield i =>
    simp only [ms_step] at ee
    repeat' split at ee
    all_goals first
      | cases ee
      | (rename_i hfs hc; exact (hK _ _ _ _ ee).st hfs (by simp [ms_cs, hc.1]))
  case iastore =>
    simp only [ms_step] at ee
    repeat' split at ee
    all_goals first
      | cases ee
      | (rename_i hh _ _ _; exact (hK _ _ _ _ ee).st hh (by simp [ms_cs]))
  case castore =>
    simp only [ms_step] at ee
    repeat' split at ee
    all_goals first
      | cases ee
      | (rename_i hh _ _ _; exact (hK _ _ _ _ ee).st hh (by simp [ms_cs]))
  case aastore =>
    simp only [ms_step] at ee
    repeat' split at ee
    all_goals first
      | cases ee
      | (rename_i hh _ _ _ _; exact (hK _ _ _ _ ee).st hh (by simp [ms_cs]))
  case newarray t =>
    simp only [ms_step] at ee
    repeat' split at ee
    all_goals first
      | cases ee
      | exact (hK _ _ _ _ ee).ap
  case anewarray i =>
    simp only [ms_step] at ee
    repeat' split at ee
    all_goals first
      | cases ee
      | exact (hK _ _ _ _ ee).ap
  case new i =>
    simp only [ms_step] at ee
    repeat' split at ee
    all_goals first
      | cases ee
      | exact (hK _ _ _ _ ee).ap
  case invokevirtual i =>
    simp only [ms_step] at ee
    repeat' split at ee
    all_goals first
      | cases ee
      | exact ms_call_mono hK hCA ee
  case invokestatic i =>
    simp only [ms_step] at ee
    repeat' split at ee
    all_goals first
      | cases ee
      | exact ms_call_mono hK hCA ee
      | exact hK _ _ _ _ ee
  case invokespecial i =>
    simp only [ms_step] at ee
    repeat' split at ee
    all_goals first
      | cases ee
      | exact ms_call_mono hK hCA ee
      | exact hK _ _ _ _ ee
  case idiv =>
    obtain ⟨xx, yy, S1, g, rfl, hg1, hg2⟩ := ms_bin_some ee
    split at hg1
    · cases hg1
    · cases hg1; exact hK _ _ _ _ hg2
  case irem =>
    obtain ⟨xx, yy, S1, g, rfl, hg1, hg2⟩ := ms_bin_some ee
    split at hg1
    · cases hg1
    · cases hg1; exact hK _ _ _ _ hg2
  case goto o =>
    obtain ⟨t, ht, hk⟩ := ms_go_some ee
    exact hK _ _ _ _ hk
  case ifCond q o =>
    simp only [ms_step] at ee
    split at ee
    · obtain ⟨t, ht, ee⟩ := ms_go_some ee
      split at ee <;> exact hK _ _ _ _ ee
    · cases ee
  case if_icmp q o =>
    simp only [ms_step] at ee
    split at ee
    · obtain ⟨t, ht, ee⟩ := ms_go_some ee
      split at ee <;> exact hK _ _ _ _ ee
    · cases ee
  case tableswitch d lo hi os =>
    simp only [ms_step] at ee
    repeat' split at ee
    all_goals first
      | cases ee
      | (obtain ⟨t, ht, ee⟩ := ms_go_some ee; exact hK _ _ _ _ ee)
  case lookupswitch d ps =>
    simp only [ms_step] at ee
    repeat' split at ee
    all_goals first
      | cases ee
      | (obtain ⟨t, ht, ee⟩ := ms_go_some ee; exact hK _ _ _ _ ee)
  case ireturn =>
    simp only [ms_step] at ee
    repeat' split at ee
    all_goals (cases ee)
    all_goals exact ms_P.rf _
  case return_ =>
    simp only [ms_step] at ee
    repeat' split at ee
    all_goals (cases ee)
    all_goals exact ms_P.rf _
  all_goals first
    | exact hK _ _ _ _ ee
    | (cases (show (none : Option ms_Rs) = some (r, h') from ee); done)
    | (simp only [ms_step] at ee; obtain ⟨xx, yy, S1, g, rfl, hg1, hg2⟩ := ms_bin_some ee; cases hg1; exact hK _ _ _ _ hg2)
    | (simp only [ms_step] at ee; (repeat' split at ee) <;> first | cases ee | exact hK _ _ _ _ ee)
end MONO
section SOUND4
variable {p : Program} {l : Launch} {e : Env} {R : Room} {s : State} {m : MethodId} {args : Array Value} {below : List Frame} {meth : Method} {c : Code} {Q : State → Prop} {y base b : Nat} {dA : Nat → ClassId} {D : va_G} {n0 z0 : Nat} {sc : List Int32} {r : Option Value} {h' : List ms_C} {K : ms_KT} {CA : ms_CT} {pc : Nat} {L : List (Option Value)} {S : List Value} {h : List ms_C}
set_option maxHeartbeats 4000000 in
theorem ms_step_sound (C : ms_Ctx p R s m args meth c y base b dA D n0 z0 sc h') (hend : ms_End p l e R s m args below meth c Q y base b dA D n0 z0 r h') (hK : ∀ pc L S h, K pc L S h = some (r, h') → ms_P h h' ∧ ms_Go p l e R s m args below meth c Q y base b dA D n0 z0 pc L S h)
    (hCA : ∀ z vs h r1 h1, z < 132 → (ms_args vs).length ≤ ms_L z → (∀ v ∈ vs, ∀ x, v ≠ .double x) → CA z (ms_init vs (ms_L z)) h = some (r1, h1) → ms_P h h1 ∧ ms_Met l base b dA D sc z vs h r1 h1)
    {ins : Instr} {len : Nat} (hd : decode (ms_B y) pc = .ok (ins, len)) (hl : ms_lenok ins len = true) (ee : ms_step sc y pc K CA ins L S h = some (r, h')) : ms_P h h' ∧ ms_Go p l e R s m args below meth c Q y base b dA D n0 z0 pc L S h := by
  cases ins
  case iconst n => exact so_iconst C hK (ms_hd hd hl) ee
  case lconst n => exact so_lconst C hK (ms_hd hd hl) ee
  case bipush n => exact so_bipush C hK (ms_hd hd hl) ee
  case sipush n => exact so_sipush C hK (ms_hd hd hl) ee
  case ldc_w i => exact so_ldc_w C hK (ms_hd hd hl) ee
  case ldc2_w i => exact so_ldc2_w C hK (ms_hd hd hl) ee
  case iload_n k => exact so_iload_n C hK (ms_hd hd hl) ee
  case iload k => exact so_iload C hK (ms_hd hd hl) ee
  case lload_n k => exact so_lload_n C hK (ms_hd hd hl) ee
  case lload k => exact so_lload C hK (ms_hd hd hl) ee
  case aload_n k => exact so_aload_n C hK (ms_hd hd hl) ee
  case aload k => exact so_aload C hK (ms_hd hd hl) ee
  case istore_n k => exact so_istore_n C hK (ms_hd hd hl) ee
  case istore k => exact so_istore C hK (ms_hd hd hl) ee
  case astore_n k => exact so_astore_n C hK (ms_hd hd hl) ee
  case lstore_n k => exact so_lstore_n C hK (ms_hd hd hl) ee
  case lstore k => exact so_lstore C hK (ms_hd hd hl) ee
  case iinc k n => exact so_iinc C hK (ms_hd hd hl) ee
  case iadd  => exact so_iadd C hK (ms_hd hd hl) ee
  case isub  => exact so_isub C hK (ms_hd hd hl) ee
  case imul  => exact so_imul C hK (ms_hd hd hl) ee
  case iand  => exact so_iand C hK (ms_hd hd hl) ee
  case ior  => exact so_ior C hK (ms_hd hd hl) ee
  case ishl  => exact so_ishl C hK (ms_hd hd hl) ee
  case ishr  => exact so_ishr C hK (ms_hd hd hl) ee
  case iushr  => exact so_iushr C hK (ms_hd hd hl) ee
  case idiv  => exact so_idiv C hK (ms_hd hd hl) ee
  case irem  => exact so_irem C hK (ms_hd hd hl) ee
  case ladd  => exact so_ladd C hK (ms_hd hd hl) ee
  case lmul  => exact so_lmul C hK (ms_hd hd hl) ee
  case lcmp  => exact so_lcmp C hK (ms_hd hd hl) ee
  case ldiv  => exact so_ldiv C hK (ms_hd hd hl) ee
  case lrem  => exact so_lrem C hK (ms_hd hd hl) ee
  case i2l  => exact so_i2l C hK (ms_hd hd hl) ee
  case l2i  => exact so_l2i C hK (ms_hd hd hl) ee
  case i2c  => exact so_i2c C hK (ms_hd hd hl) ee
  case dup  => exact so_dup C hK (ms_hd hd hl) ee
  case pop  => exact so_pop C hK (ms_hd hd hl) ee
  case dup2  => exact so_dup2 C hK (ms_hd hd hl) ee
  case goto o => exact so_goto C hK (ms_hd hd hl) ee
  case ifCond q o => exact so_ifCond C hK (ms_hd hd hl) ee
  case if_icmp q o => exact so_if_icmp C hK (ms_hd hd hl) ee
  case getfield i => exact so_getfield C hK (ms_hd hd hl) ee
  case putfield i => exact so_putfield C hK (ms_hd hd hl) ee
  case iaload  => exact so_iaload C hK (ms_hd hd hl) ee
  case caload  => exact so_caload C hK (ms_hd hd hl) ee
  case iastore  => exact so_iastore C hK (ms_hd hd hl) ee
  case castore  => exact so_castore C hK (ms_hd hd hl) ee
  case aaload  => exact so_aaload C hK (ms_hd hd hl) ee
  case aastore  => exact so_aastore C hK (ms_hd hd hl) ee
  case arraylength  => exact so_arraylength C hK (ms_hd hd hl) ee
  case newarray t => exact so_newarray C hK (ms_hd hd hl) ee
  case anewarray i => exact so_anewarray C hK (ms_hd hd hl) ee
  case new i => exact so_new C hK (ms_hd hd hl) ee
  case tableswitch d lo hi os => exact so_tableswitch C hK hd ee
  case lookupswitch d ps => exact so_lookupswitch C hK hd ee
  case invokestatic i => exact so_invokestatic C hK hCA (ms_hd hd hl) ee
  case invokevirtual i => exact so_invokevirtual C hK hCA (ms_hd hd hl) ee
  case invokespecial i => exact so_invokespecial C hK hCA (ms_hd hd hl) ee
  case ireturn => exact so_ireturn hend (ms_hd hd hl) ee
  case return_ => exact so_return hend (ms_hd hd hl) ee
  all_goals cases (show (none : Option ms_Rs) = some (r, h') from ee)
end SOUND4
theorem ms_lwgood {s : State} {args : Array Value} {ws : List Cond} (h : ∀ w ∈ ws, w.before args s = true) (hg : ∀ w ∈ lw_good, w ∈ ws) : ∀ w ∈ lw_good, w.before args s = true := fun w hw => h w (hg w hw)
theorem ms_sound (l : Launch) (base b : Nat) (dA : Nat → ClassId) (D : va_G) (sc : List Int32) : ∀ (f y pc : Nat) (L : List (Option Value)) (S : List Value) (h : List ms_C) (r : Option Value) (h' : List ms_C), ms_run sc f y pc L S h = some (r, h') →
    ms_P h h' ∧ ∀ {p : Program} {e : Env} {R : Room} {s : State} {m : MethodId} {args : Array Value} {below : List Frame} {meth : Method} {c : Code} {Q : State → Prop} {n0 z0 : Nat}, ms_Ctx p R s m args meth c y base b dA D n0 z0 sc h' → ms_End p l e R s m args below meth c Q y base b dA D n0 z0 r h' → ms_Go p l e R s m args below meth c Q y base b dA D n0 z0 pc L S h := by
  intro f
  induction f with
  | zero => intro y pc L S h r h' ee; cases ee
  | succ f ih =>
    intro y pc L S h r h' ee
    have met : ∀ z vs h r1 h1, z < 132 → (ms_args vs).length ≤ ms_L z → (∀ v ∈ vs, ∀ x, v ≠ .double x) → ms_run sc f z 0 (ms_init vs (ms_L z)) [] h = some (r1, h1) → ms_P h h1 ∧ ms_Met l base b dA D sc z vs h r1 h1 := by
      intro z vs h r1 h1 hz hn hnd hrun
      obtain ⟨hp, hgo⟩ := ih z 0 _ _ h r1 h1 hrun
      refine ⟨hp, ?_⟩
      refine Met.ofW (cc := ms_B z) (maxL := ms_L z) (ret := ms_R z) (gd_plain hz).1 rfl ?_
      intro p e s m args below meth c s₁ B hml hv
      obtain ⟨rfl, hsz, hP, hK, hX⟩ := hv
      have hts := atoms_spec (ws := ms_w z) B.pre
      have hlocks := B.notSynchronized
      have hp1 := hp.1
      have hp2 := hp.2
      rw [lg_entry_eq]
      refine hgo (n0 := h.length) (z0 := ms_sz h) ⟨B.exec, B.bytes, hml, by rw [(gd_cls hz).1]; exact findClass_of_methodNamed B.named, fun w hw => hts w (List.mem_cons_of_mem _ hw), hK, fun hn => (name_of_methodNamed B.named B.method).1.trans hn, Nat.le_refl _, Nat.le_refl _, hX, by show h1.length ≤ h.length + (h1.length - h.length); omega, by show ms_sz h1 ≤ ms_sz h + (ms_sz h1 - ms_sz h); omega, hsz⟩ ?_ _ _ _ _ _ (ms_lv.init hnd hn) ⟨hsz, rfl, hsz, rfl, hP, va_S.rf⟩
      intro pc1 ls1 H1 locs1 cells1 slots1 hret hr1
      obtain ⟨q1, q2, q3, q4, q5, q6⟩ := hr1
      have hc : cells1 = h1.length - h.length := by omega
      have hs : slots1 = ms_sz h1 - ms_sz h := by omega
      subst hc; subst hs
      rcases hret with ⟨x, rfl, hd, hR⟩ | ⟨rfl, hd, hR⟩
      · rcases hR with hR | ⟨hR, hx⟩
        · exact W.iret B.exec B.bytes (B.returns.trans hR) (fun t ht hW => ⟨rfl, by rw [ht]; exact q1, by rw [ht]; exact q5, q6.F ht⟩) q6.2.2 hd
        · exact W.zret (ty := .boolean) B.exec B.bytes (B.returns.trans hR) (by rcases hx with rfl | rfl <;> rfl) (fun t ht hW => ⟨rfl, by rw [ht]; exact q1, by rw [ht]; exact q5, q6.F ht⟩) q6.2.2 hd
      · exact W.vret B.exec B.bytes (B.returns.trans hR) (fun t ht hW => ⟨rfl, by rw [ht]; exact q1, by rw [ht]; exact q5, q6.F ht⟩) q6.2.2 hd
    unfold ms_run at ee
    split at ee
    · rename_i ins len hd
      split at ee
      · rename_i hl
        refine ⟨?_, fun C hend => ?_⟩
        · exact ms_step_mono (fun pc L S h ek => (ih y pc L S h r h' ek).1) (fun z L0 h r1 h1 ek => (ih z 0 L0 [] h r1 h1 ek).1) ee
        · exact (ms_step_sound C hend (fun pc L S h ek => ⟨(ih y pc L S h r h' ek).1, (ih y pc L S h r h' ek).2 C hend⟩) (fun z vs h r1 h1 hz hn hnd ek => met z vs h r1 h1 hz hn hnd ek) hd hl ee).2
      · cases ee
    · cases ee
end
section
-- what a run of the small machine comes to: WP, and its rows
def WP (sc : List Int32) (y pc : Nat) (L : List (Option Value)) (S : List Value) (h : List ms_C) (Q : Option Value → List ms_C → Prop) : Prop := ∃ (f : Nat) (r : Option Value) (h' : List ms_C), ms_run sc f y pc L S h = some (r, h') ∧ Q r h'
def wX {α : Type} (o : Option α) (F : α → Prop) : Prop := match o with
  | some x => F x
  | none => False
theorem wX_some {α : Type} {x : α} {F : α → Prop} : wX (some x) F ↔ F x := Iff.rfl
theorem wX_none {α : Type} {F : α → Prop} : wX none F ↔ False := Iff.rfl
def ms_arr (h : List ms_C) (a : Nat) : Option (List Int32) := match h[a]? with
  | some (.inr (.inl (false, l))) => some l
  | _ => none
def ms_chr (h : List ms_C) (a : Nat) : Option (List Int32) := match h[a]? with
  | some (.inr (.inl (true, l))) => some l
  | _ => none
def ms_row (h : List ms_C) (a : Nat) : Option (List (Option Nat)) := match h[a]? with
  | some (.inr (.inr l)) => some l
  | _ => none
def ms_is (h : List ms_C) (a ci : Nat) : Option (List Value) := match h[a]? with
  | some (.inl (cj, fs)) => if cj = ci then some fs else none
  | _ => none
section MORE
variable {sc : List Int32} {y pc : Nat} {L : List (Option Value)} {S : List Value} {h : List ms_C} {K K' : ms_KT} {CA CA' : ms_CT} {z : ms_Rs}
theorem ms_go_up {off : Int} {k k' : Nat → Option ms_Rs} (hk : ∀ t, k t = some z → k' t = some z) (e : ms_go pc off k = some z) : ms_go pc off k' = some z := by
  unfold ms_go at e ⊢
  split at e
  · exact hk _ e
  · cases e
theorem ms_bin_up {f f' : Int32 → Int32 → Option (List Value → Option ms_Rs)} (hk : ∀ a b g S, f a b = some g → g S = some z → ∃ g', f' a b = some g' ∧ g' S = some z) (e : ms_bin S f = some z) : ms_bin S f' = some z := by
  obtain ⟨x, y, S1, g, rfl, h1, h2⟩ := ms_bin_some e
  obtain ⟨g', h3, h4⟩ := hk _ _ _ _ h1 h2
  simp only [ms_bin, h3, h4]
theorem ms_call_up (hK : ∀ pc L S h, K pc L S h = some z → K' pc L S h = some z) (hC : ∀ q L h w, CA q L h = some w → CA' q L h = some w) {k q : Nat} (e : ms_call y pc K CA k q L S h = some z) : ms_call y pc K' CA' k q L S h = some z := by
  unfold ms_call at e ⊢
  split at e
  · cases e
  · rename_i hn
    rw [if_neg hn]
    split at e
    · rename_i r1 h1 hc
      rw [hC _ _ _ _ hc]
      exact hK _ _ _ _ e
    · cases e
set_option maxHeartbeats 4000000 in
theorem ms_step_up (hK : ∀ pc L S h, K pc L S h = some z → K' pc L S h = some z) (hC : ∀ q L h w, CA q L h = some w → CA' q L h = some w) {ins : Instr} (e : ms_step sc y pc K CA ins L S h = some z) : ms_step sc y pc K' CA' ins L S h = some z := by
  cases ins
  case idiv =>
    simp only [ms_step] at e ⊢
    refine ms_bin_up (fun a b g S h1 h2 => ?_) e
    split at h1
    · cases h1
    · rename_i hn
      cases h1
      exact ⟨_, by rw [if_neg hn], hK _ _ _ _ h2⟩
  case irem =>
    simp only [ms_step] at e ⊢
    refine ms_bin_up (fun a b g S h1 h2 => ?_) e
    split at h1
    · cases h1
    · rename_i hn
      cases h1
      exact ⟨_, by rw [if_neg hn], hK _ _ _ _ h2⟩
  case goto o => exact ms_go_up (fun t ht => hK _ _ _ _ ht) e
  case ifCond q o =>
    simp only [ms_step] at e ⊢
    split at e
    · refine ms_go_up (fun t ht => ?_) e
      split at ht <;> exact hK _ _ _ _ ht
    · cases e
  case if_icmp q o =>
    simp only [ms_step] at e ⊢
    split at e
    · refine ms_go_up (fun t ht => ?_) e
      split at ht <;> exact hK _ _ _ _ ht
    · cases e
  case tableswitch d lo hi os =>
    simp only [ms_step] at e ⊢
    split at e
    · split at e
      · rename_i hc
        rw [if_pos hc]
        exact ms_go_up (fun t ht => hK _ _ _ _ ht) e
      · rename_i hc
        rw [if_neg hc]
        split at e
        · exact ms_go_up (fun t ht => hK _ _ _ _ ht) e
        · cases e
    · cases e
  case lookupswitch d ps =>
    simp only [ms_step] at e ⊢
    split at e
    · split at e
      · rename_i hc
        rw [if_pos hc]
        exact ms_go_up (fun t ht => hK _ _ _ _ ht) e
      · cases e
    · cases e
  case invokevirtual i =>
    simp only [ms_step] at e ⊢
    split at e
    · split at e
      · split at e
        · split at e
          · rename_i hc
            rw [if_pos hc]
            exact ms_call_up hK hC e
          · cases e
        · cases e
      · cases e
    · cases e
  case invokestatic i =>
    simp only [ms_step] at e ⊢
    split at e
    · exact ms_call_up hK hC e
    · exact ms_call_up hK hC e
    · split at e
      · split at e
        · rename_i hc; rw [if_pos hc]; exact hK _ _ _ _ e
        · cases e
      · cases e
    · split at e
      · split at e
        · rename_i hc; rw [if_pos hc]; exact hK _ _ _ _ e
        · cases e
      · cases e
    · cases e
  case invokespecial i =>
    simp only [ms_step] at e ⊢
    split at e
    · split at e
      · split at e
        · rename_i hc; rw [if_pos hc]; exact hK _ _ _ _ e
        · cases e
      · cases e
    · split at e
      · exact ms_call_up hK hC e
      · cases e
    · cases e
  all_goals first
    | exact hK _ _ _ _ e
    | exact e
    | (simp only [ms_step] at e ⊢; exact ms_bin_up (fun a b g S h1 h2 => by cases h1; exact ⟨_, rfl, hK _ _ _ _ h2⟩) e)
    | (simp only [ms_step] at e ⊢; repeat' split at e
       all_goals first
         | (cases e; done)
         | exact hK _ _ _ _ e
         | (simp only [*, if_pos, if_neg, not_false_eq_true] at *; first | exact hK _ _ _ _ e | exact e)
         | (simp_all; first | exact hK _ _ _ _ e | done))
end MORE
end
section
-- WP's rows, an instruction each
theorem ms_run_up {sc : List Int32} : ∀ (f g y pc : Nat) (L : List (Option Value)) (S : List Value) (h : List ms_C) (z : ms_Rs), f ≤ g → ms_run sc f y pc L S h = some z → ms_run sc g y pc L S h = some z := by
  intro f
  induction f with
  | zero => intro g y pc L S h z _ e; cases e
  | succ f ih =>
    intro g y pc L S h z hg e
    cases g with
    | zero => omega
    | succ g =>
      cases hd : decode (ms_B y) pc with
      | error w => simp only [ms_run, hd] at e; cases e
      | ok q =>
        obtain ⟨ins, len⟩ := q
        simp only [ms_run, hd] at e ⊢
        split at e
        · rename_i hl
          rw [if_pos hl]
          exact ms_step_up (fun pc L S h e => ih g y pc L S h z (by omega) e) (fun q L h w e => ih g q 0 L [] h w (by omega) e) e
        · cases e
section WPR
variable {sc : List Int32} {y pc : Nat} {L : List (Option Value)} {S : List Value} {h : List ms_C} {Q : Option Value → List ms_C → Prop}
theorem wp_step {ins : Instr} {len : Nat} (hd : decode (ms_B y) pc = .ok (ins, len)) (hl : ms_lenok ins len = true) : WP sc y pc L S h Q ↔ ∃ f r h', ms_step sc y pc (fun pc L S h => ms_run sc f y pc L S h) (fun z L h => ms_run sc f z 0 L [] h) ins L S h = some (r, h') ∧ Q r h' := by
  constructor
  · rintro ⟨f, r, h', e, q⟩
    cases f with
    | zero => cases e
    | succ f =>
      unfold ms_run at e
      rw [hd] at e
      dsimp only at e
      rw [if_pos hl] at e
      exact ⟨f, r, h', e, q⟩
  · rintro ⟨f, r, h', e, q⟩
    refine ⟨f + 1, r, h', ?_, q⟩
    unfold ms_run
    rw [hd]
    dsimp only
    rw [if_pos hl]
    exact e
/-- a step that goes on at one place -/
theorem wp_on {ins : Instr} {len pc' : Nat} {L' : List (Option Value)} {S' : List Value} {h1 : List ms_C} (hd : decode (ms_B y) pc = .ok (ins, len)) (hl : ms_lenok ins len = true) (hs : ∀ (K : ms_KT) (CA : ms_CT), ms_step sc y pc K CA ins L S h = K pc' L' S' h1) : WP sc y pc L S h Q ↔ WP sc y pc' L' S' h1 Q := by
  rw [wp_step hd hl]
  simp only [hs]
  exact Iff.rfl
theorem wp_no {ins : Instr} {len : Nat} (hd : decode (ms_B y) pc = .ok (ins, len)) (hl : ms_lenok ins len = true) (hs : ∀ (K : ms_KT) (CA : ms_CT), ms_step sc y pc K CA ins L S h = none) : WP sc y pc L S h Q ↔ False := by
  rw [wp_step hd hl]
  simp [hs]
def ms_aft (o : Option ms_Rs) (F : Option Value → List ms_C → Option ms_Rs) : Option ms_Rs := match o with
  | some (r, h') => F r h'
  | none => none
theorem wp_call {ins : Instr} {len z pc' : Nat} {vs rest : List Value} (hd : decode (ms_B y) pc = .ok (ins, len)) (hl : ms_lenok ins len = true) (hs : ∀ (K : ms_KT) (CA : ms_CT), ms_step sc y pc K CA ins L S h = ms_aft (CA z (ms_init vs (ms_L z)) h) (fun r h' => K pc' L (r.toList ++ rest) h')) : WP sc y pc L S h Q ↔ WP sc z 0 (ms_init vs (ms_L z)) [] h (fun r h1 => WP sc y pc' L (r.toList ++ rest) h1 Q) := by
  rw [wp_step hd hl]
  simp only [hs]
  constructor
  · rintro ⟨f, r, h', e, q⟩
    cases hc : ms_run sc f z 0 (ms_init vs (ms_L z)) [] h with
    | none => rw [hc] at e; cases e
    | some w =>
      obtain ⟨r1, h1⟩ := w
      rw [hc] at e
      exact ⟨f, r1, h1, hc, f, r, h', e, q⟩
  · rintro ⟨f, r1, h1, hc, g, r, h', e, q⟩
    refine ⟨max f g, r, h', ?_, q⟩
    rw [ms_run_up f (max f g) _ _ _ _ _ _ (Nat.le_max_left _ _) hc]
    exact ms_run_up g (max f g) _ _ _ _ _ _ (Nat.le_max_right _ _) e
theorem wp_if {ins : Instr} {len : Nat} {p1 p2 : Nat} {S' : List Value} {c : Prop} [d : Decidable c] (hd : decode (ms_B y) pc = .ok (ins, len)) (hl : ms_lenok ins len = true) (hs : ∀ (K : ms_KT) (CA : ms_CT), ms_step sc y pc K CA ins L S h = if c then K p1 L S' h else K p2 L S' h) : WP sc y pc L S h Q ↔ if c then WP sc y p1 L S' h Q else WP sc y p2 L S' h Q := by
  by_cases hc : c
  · rw [if_pos hc]
    exact wp_on hd hl (fun K CA => by rw [hs, if_pos hc])
  · rw [if_neg hc]
    exact wp_on hd hl (fun K CA => by rw [hs, if_neg hc])
theorem wp_opt {α : Type} {ins : Instr} {len : Nat} {o : Option α} {pc' : Nat} {L' : List (Option Value)} {S' : α → List Value} {h' : α → List ms_C} (hd : decode (ms_B y) pc = .ok (ins, len)) (hl : ms_lenok ins len = true) (hn : o = none → ∀ (K : ms_KT) (CA : ms_CT), ms_step sc y pc K CA ins L S h = none) (hs : ∀ v, o = some v → ∀ (K : ms_KT) (CA : ms_CT), ms_step sc y pc K CA ins L S h = K pc' L' (S' v) (h' v)) : WP sc y pc L S h Q ↔ wX o (fun v => WP sc y pc' L' (S' v) (h' v) Q) := by
  cases o with
  | none => exact wp_no hd hl (hn rfl)
  | some v => exact wp_on hd hl (hs v rfl)
theorem wp_ifC {q : ClassFile.Cond} {off : Int} {t : Nat} {x : Int32} {c : Prop} [d : Decidable c] (hd : decode (ms_B y) pc = .ok (.ifCond q off, 3)) (ht : (pc : Int) + off = (t : Int)) (hc : ms_cmp q x 0 ↔ c) : WP sc y pc L (.int x :: S) h Q ↔ if c then WP sc y t L S h Q else WP sc y (pc + 3) L S h Q := by
  refine wp_if hd rfl (fun K CA => ?_)
  simp only [ms_step, ms_go, ht]
  cases hz : ms_cmpD q x 0 with
  | isTrue n => rw [if_pos (hc.mp n)]
  | isFalse n => rw [if_neg (fun k => n (hc.mpr k))]
theorem wp_ifI {q : ClassFile.Cond} {off : Int} {t : Nat} {a b : Int32} {c : Prop} [d : Decidable c] (hd : decode (ms_B y) pc = .ok (.if_icmp q off, 3)) (ht : (pc : Int) + off = (t : Int)) (hc : ms_cmp q a b ↔ c) : WP sc y pc L (.int b :: .int a :: S) h Q ↔ if c then WP sc y t L S h Q else WP sc y (pc + 3) L S h Q := by
  refine wp_if hd rfl (fun K CA => ?_)
  simp only [ms_step, ms_go, ht]
  cases hz : ms_cmpD q a b with
  | isTrue n => rw [if_pos (hc.mp n)]
  | isFalse n => rw [if_neg (fun k => n (hc.mpr k))]
theorem wp_goto {off : Int} {t : Nat} (hd : decode (ms_B y) pc = .ok (.goto off, 3)) (ht : (pc : Int) + off = (t : Int)) : WP sc y pc L S h Q ↔ WP sc y t L S h Q := by
  refine wp_on hd rfl (fun K CA => ?_)
  simp only [ms_step, ms_go, ht]
theorem wp_getf {i ci k a : Nat} (hd : decode (ms_B y) pc = .ok (.getfield i, 3)) (hf : ms_f (ms_O y) i = some (ci, k)) : WP sc y pc L (.ref a :: S) h Q ↔ wX (ms_get h a ci k) (fun v => WP sc y (pc + 3) L (v :: S) h Q) :=
  wp_opt (S' := fun v => v :: S) (h' := fun _ => h) hd rfl (fun e9 K CA => by simp only [ms_step, hf, e9]) (fun v9 e9 K CA => by simp only [ms_step, hf, e9])
theorem wp_put {i ci k a : Nat} {v : Value} (hd : decode (ms_B y) pc = .ok (.putfield i, 3)) (hf : ms_f (ms_O y) i = some (ci, k)) {r : vw_C} (hr : vwCl[ci]? = some r) (hk : k < r.2.2) (hv : ms_fit (r.2.1 k).2.2.1 v = true) (hfin : (r.2.1 k).2.2.2 = false) : WP sc y pc L (v :: .ref a :: S) h Q ↔ wX (ms_is h a ci) (fun fs => k < fs.length ∧ WP sc y (pc + 3) L S (h.set a (.inl (ci, fs.set k v))) Q) := by
  obtain ⟨C, T, N⟩ := r
  unfold ms_is
  cases hh : h[a]? with
  | none => exact wp_no hd rfl (fun K CA => by simp only [ms_step, hf, hr, hh])
  | some c =>
    match c, hh with
    | .inl (cj, fs), hh =>
      dsimp only
      by_cases hc : cj = ci
      · rw [if_pos hc, wX_some]
        by_cases hl : k < fs.length
        · simp only [hl, true_and]
          exact wp_on hd rfl (fun K CA => by simp only [ms_step, hf, hr, hh]; rw [if_pos ⟨hc, hk, hl, hv, Or.inl hfin⟩])
        · simp only [hl, false_and]
          exact wp_no hd rfl (fun K CA => by simp only [ms_step, hf, hr, hh]; rw [if_neg (fun q => hl q.2.2.1)])
      · rw [if_neg hc, wX_none]
        exact wp_no hd rfl (fun K CA => by simp only [ms_step, hf, hr, hh]; rw [if_neg (fun q => hc q.1)])
    | .inr c, hh => exact wp_no hd rfl (fun K CA => by simp only [ms_step, hf, hr, hh])
theorem wp_iald {i : Int32} {a : Nat} (hd : decode (ms_B y) pc = .ok (.iaload, 1)) : WP sc y pc L (.int i :: .ref a :: S) h Q ↔ wX (ms_arr h a) (fun l => wX (ms_iat i l.length) (fun j => WP sc y (pc + 1) L (.int (l.getD j 0) :: S) h Q)) := by
  unfold ms_arr
  split
  · rename_i l hh
    rw [wX_some]
    exact wp_opt (S' := fun j => .int (l.getD j 0) :: S) (h' := fun _ => h) hd rfl (fun e9 K CA => by simp only [ms_step, hh, e9]) (fun v9 e9 K CA => by simp only [ms_step, hh, e9])
  · rename_i hh
    refine wp_no hd rfl (fun K CA => ?_)
    simp only [ms_step]
    first | done | (split <;> first | rfl | (rename_i l hl; exact absurd hl (hh l)))
theorem wp_cald {i : Int32} {a : Nat} (hd : decode (ms_B y) pc = .ok (.caload, 1)) : WP sc y pc L (.int i :: .ref a :: S) h Q ↔ wX (ms_chr h a) (fun l => wX (ms_iat i l.length) (fun j => WP sc y (pc + 1) L (.int (l.getD j 0) :: S) h Q)) := by
  unfold ms_chr
  split
  · rename_i l hh
    rw [wX_some]
    exact wp_opt (S' := fun j => .int (l.getD j 0) :: S) (h' := fun _ => h) hd rfl (fun e9 K CA => by simp only [ms_step, hh, e9]) (fun v9 e9 K CA => by simp only [ms_step, hh, e9])
  · rename_i hh
    refine wp_no hd rfl (fun K CA => ?_)
    simp only [ms_step]
    first | done | (split <;> first | rfl | (rename_i l hl; exact absurd hl (hh l)))
theorem wp_sald {i : Int32} {u : UInt32} (hd : decode (ms_B y) pc = .ok (.iaload, 1)) : WP sc y pc L (.int i :: .float u :: S) h Q ↔ wX (ms_iat i sc.length) (fun j => WP sc y (pc + 1) L (.int (sc.getD j 0) :: S) h Q) :=
  wp_opt (S' := fun j => .int (sc.getD j 0) :: S) (h' := fun _ => h) hd rfl (fun e9 K CA => by simp only [ms_step, e9]) (fun v9 e9 K CA => by simp only [ms_step, e9])
theorem wp_iast {i x : Int32} {a : Nat} (hd : decode (ms_B y) pc = .ok (.iastore, 1)) : WP sc y pc L (.int x :: .int i :: .ref a :: S) h Q ↔ wX (ms_arr h a) (fun l => wX (ms_iat i l.length) (fun j => WP sc y (pc + 1) L S (h.set a (ms_ia (l.set j x))) Q)) := by
  unfold ms_arr
  split
  · rename_i l hh
    rw [wX_some]
    exact wp_opt (S' := fun j => S) (h' := fun j => h.set a (ms_ia (l.set j x))) hd rfl (fun e9 K CA => by simp only [ms_step, hh, e9]) (fun v9 e9 K CA => by simp only [ms_step, hh, e9]; rfl)
  · rename_i hh
    refine wp_no hd rfl (fun K CA => ?_)
    simp only [ms_step]
    first | done | (split <;> first | rfl | (rename_i l hl; exact absurd hl (hh l)))
theorem wp_cast {i x : Int32} {a : Nat} (hd : decode (ms_B y) pc = .ok (.castore, 1)) : WP sc y pc L (.int x :: .int i :: .ref a :: S) h Q ↔ wX (ms_chr h a) (fun l => wX (ms_iat i l.length) (fun j => WP sc y (pc + 1) L S (h.set a (ms_ca (l.set j (vp_nar .char x)))) Q)) := by
  unfold ms_chr
  split
  · rename_i l hh
    rw [wX_some]
    exact wp_opt (S' := fun j => S) (h' := fun j => h.set a (ms_ca (l.set j (vp_nar .char x)))) hd rfl (fun e9 K CA => by simp only [ms_step, hh, e9]) (fun v9 e9 K CA => by simp only [ms_step, hh, e9]; rfl)
  · rename_i hh
    refine wp_no hd rfl (fun K CA => ?_)
    simp only [ms_step]
    first | done | (split <;> first | rfl | (rename_i l hl; exact absurd hl (hh l)))
theorem wp_aald {i : Int32} {a : Nat} (hd : decode (ms_B y) pc = .ok (.aaload, 1)) : WP sc y pc L (.int i :: .ref a :: S) h Q ↔ wX (ms_row h a) (fun l => wX (ms_iat i l.length) (fun j => wX (l.getD j none) (fun q => WP sc y (pc + 1) L (.ref q :: S) h Q))) := by
  unfold ms_row
  split
  · rename_i l hh
    rw [wX_some]
    cases hj : ms_iat i l.length with
    | none => rw [wX_none]; exact wp_no hd rfl (fun K CA => by simp only [ms_step, hh, hj])
    | some j =>
      rw [wX_some]
      exact wp_opt (S' := fun q => .ref q :: S) (h' := fun _ => h) hd rfl (fun e9 K CA => by simp only [ms_step, hh, hj, e9]) (fun v9 e9 K CA => by simp only [ms_step, hh, hj, e9])
  · rename_i hh
    refine wp_no hd rfl (fun K CA => ?_)
    simp only [ms_step]
    first | done | (split <;> first | rfl | (rename_i l hl; exact absurd hl (hh l)))
theorem wp_aast {i : Int32} {a q : Nat} (hd : decode (ms_B y) pc = .ok (.aastore, 1)) : WP sc y pc L (.ref q :: .int i :: .ref a :: S) h Q ↔ wX (ms_row h a) (fun l => wX (ms_is h q 4) (fun _ => wX (ms_iat i l.length) (fun j => WP sc y (pc + 1) L S (h.set a (ms_ra (l.set j (some q)))) Q))) := by
  unfold ms_row
  split
  · rename_i l hh
    rw [wX_some]
    unfold ms_is
    split
    · rename_i cj fs hq
      split
      · rename_i hc
        subst hc
        rw [wX_some]
        exact wp_opt (S' := fun j => S) (h' := fun j => h.set a (ms_ra (l.set j (some q)))) hd rfl (fun e9 K CA => by simp only [ms_step, hh, hq, e9]) (fun v9 e9 K CA => by simp only [ms_step, hh, hq, e9]; rfl)
      · rename_i hc
        rw [wX_none]
        refine wp_no hd rfl (fun K CA => ?_)
        simp only [ms_step]
        first | done | (split <;> first | rfl | (rename_i l2 fs2 h1 h2; rw [hq] at h2; cases h2; exact absurd rfl hc))
    · rename_i hq
      rw [wX_none]
      refine wp_no hd rfl (fun K CA => ?_)
      simp only [ms_step]
      first | done | (split <;> first | rfl | (rename_i l2 fs2 h1 h2; exact absurd h2 (hq _ _)))
  · rename_i hh
    refine wp_no hd rfl (fun K CA => ?_)
    simp only [ms_step]
    first | done | (split <;> first | rfl | (rename_i l2 fs2 h1 h2; exact absurd h1 (hh _)))
theorem wp_alenR {a : Nat} (l : List (Option Nat)) (hl : ms_row h a = some l) (hd : decode (ms_B y) pc = .ok (.arraylength, 1)) : WP sc y pc L (.ref a :: S) h Q ↔ WP sc y (pc + 1) L (.int (nI l.length) :: S) h Q := by
  unfold ms_row at hl
  split at hl
  · rename_i l' hh
    cases hl
    exact wp_on hd rfl (fun K CA => by simp only [ms_step, hh]; rfl)
  · cases hl
theorem wp_alenC {a : Nat} (l : List Int32) (hl : ms_chr h a = some l) (hd : decode (ms_B y) pc = .ok (.arraylength, 1)) : WP sc y pc L (.ref a :: S) h Q ↔ WP sc y (pc + 1) L (.int (nI l.length) :: S) h Q := by
  unfold ms_chr at hl
  split at hl
  · rename_i l' hh
    cases hl
    exact wp_on hd rfl (fun K CA => by simp only [ms_step, hh]; rfl)
  · cases hl
theorem wp_slen {u : UInt32} (hd : decode (ms_B y) pc = .ok (.arraylength, 1)) : WP sc y pc L (.float u :: S) h Q ↔ WP sc y (pc + 1) L (.int (nI sc.length) :: S) h Q :=
  wp_on hd rfl (fun K CA => by simp only [ms_step]; rfl)
theorem ms_callq {kind z : Nat} {K : ms_KT} {CA : ms_CT} {vs rest : List Value} (hS : S = vs.reverse ++ rest) (hn : vs.length = ms_A z) (hf : ms_F z + 1 ≤ ms_F y) (hw : 8 + (ms_L z + 11) + ms_W z ≤ ms_W y) (hc : (rest.map fun v => v.category).sum ≤ 8) (ha : (ms_args vs).length ≤ ms_L z) (hd : vs.all ms_nd = true) : ms_call y pc K CA kind z L S h = ms_aft (CA z (ms_init vs (ms_L z)) h) (fun r h' => K (pc + 3) L (r.toList ++ rest) h') := by
  subst hS
  have hlen : vs.reverse.length = ms_A z := by simpa using hn
  have ht : (vs.reverse ++ rest).take (ms_A z) = vs.reverse := by rw [← hlen, List.take_left]
  have hdr : (vs.reverse ++ rest).drop (ms_A z) = rest := by rw [← hlen, List.drop_left]
  unfold ms_call
  rw [ht, hdr, List.reverse_reverse, if_neg]
  · cases CA z (ms_init vs (ms_L z)) h <;> rfl
  rintro (q | q | q | q | q | q)
  · simp only [List.length_append, hlen] at q; omega
  · omega
  · omega
  · omega
  · omega
  · rw [List.all_reverse, hd] at q; cases q
theorem wp_stat {i z : Nat} {vs rest : List Value} (hd : decode (ms_B y) pc = .ok (.invokestatic i, 3)) (hz : ms_c (ms_O y) i = some (z, 1) ∨ ms_c (ms_O y) i = some (z, 3)) (hS : S = vs.reverse ++ rest) (hn : vs.length = ms_A z) (hf : ms_F z + 1 ≤ ms_F y) (hw : 8 + (ms_L z + 11) + ms_W z ≤ ms_W y) (hc : (rest.map fun v => v.category).sum ≤ 8) (ha : (ms_args vs).length ≤ ms_L z) (hnd : vs.all ms_nd = true) : WP sc y pc L S h Q ↔ WP sc z 0 (ms_init vs (ms_L z)) [] h (fun r h1 => WP sc y (pc + 3) L (r.toList ++ rest) h1 Q) :=
  wp_call hd rfl (fun K CA => by
    simp only [ms_step]
    rcases hz with hz | hz <;> rw [hz] <;> exact ms_callq hS hn hf hw hc ha hnd)
theorem wp_virt {i z a : Nat} {fs vs rest : List Value} (hcell : ms_is h a (ms_O z) = some fs) (hd : decode (ms_B y) pc = .ok (.invokevirtual i, 3)) (hz : ms_c (ms_O y) i = some (z, 0)) (hv : vs.head? = some (.ref a)) (hS : S = vs.reverse ++ rest) (hn : vs.length = ms_A z) (hf : ms_F z + 1 ≤ ms_F y) (hw : 8 + (ms_L z + 11) + ms_W z ≤ ms_W y) (hc : (rest.map fun v => v.category).sum ≤ 8) (ha : (ms_args vs).length ≤ ms_L z) (hnd : vs.all ms_nd = true) : WP sc y pc L S h Q ↔ WP sc z 0 (ms_init vs (ms_L z)) [] h (fun r h1 => WP sc y (pc + 3) L (r.toList ++ rest) h1 Q) :=
  wp_call hd rfl (fun K CA => by
    have h0 : S[ms_A z - 1]? = some (.ref a) := by
      subst hS
      cases vs with
      | nil => cases hv
      | cons v t =>
        cases hv
        simp only [List.length_cons] at hn
        rw [← hn]
        simp
    have h1 : ∃ fs', h[a]? = some (.inl (ms_O z, fs')) := by
      unfold ms_is at hcell
      split at hcell
      · rename_i cj fs' hh
        split at hcell
        · rename_i hq
          subst hq
          exact ⟨_, hh⟩
        · cases hcell
      · cases hcell
    obtain ⟨fs', h1⟩ := h1
    simp only [ms_step, hz, h0, h1, if_pos]
    exact ms_callq hS hn hf hw hc ha hnd)
theorem wp_spec {i z a : Nat} {vs rest : List Value} (hd : decode (ms_B y) pc = .ok (.invokespecial i, 3)) (hz : ms_c (ms_O y) i = some (z, 2)) (hv : vs.head? = some (.ref a)) (hS : S = vs.reverse ++ rest) (hn : vs.length = ms_A z) (hf : ms_F z + 1 ≤ ms_F y) (hw : 8 + (ms_L z + 11) + ms_W z ≤ ms_W y) (hc : (rest.map fun v => v.category).sum ≤ 8) (ha : (ms_args vs).length ≤ ms_L z) (hnd : vs.all ms_nd = true) : WP sc y pc L S h Q ↔ WP sc z 0 (ms_init vs (ms_L z)) [] h (fun r h1 => WP sc y (pc + 3) L (r.toList ++ rest) h1 Q) :=
  wp_call hd rfl (fun K CA => by
    have h0 : S[ms_A z - 1]? = some (.ref a) := by
      subst hS
      cases vs with
      | nil => cases hv
      | cons v t =>
        cases hv
        simp only [List.length_cons] at hn
        rw [← hn]
        simp
    simp only [ms_step, hz, h0]
    exact ms_callq hS hn hf hw hc ha hnd)
theorem wp_ldc2 {i : Nat} {v : Int64} (hd : decode (ms_B y) pc = .ok (.ldc2_w i, 3)) (hv : ms_g (ms_O y) i = some v) : WP sc y pc L S h Q ↔ WP sc y (pc + 3) L (.long v :: S) h Q :=
  wp_on hd rfl (fun K CA => by simp only [ms_step, hv])
theorem wp_ldcw {i : Nat} {v : Int32} (hd : decode (ms_B y) pc = .ok (.ldc_w i, 3)) (hv : ms_i (ms_O y) i = some v) : WP sc y pc L S h Q ↔ WP sc y (pc + 3) L (.int v :: S) h Q :=
  wp_on hd rfl (fun K CA => by simp only [ms_step, hv])
theorem wp_div {a b : Int32} (hd : decode (ms_B y) pc = .ok (.idiv, 1)) (hb : ¬ b = 0) : WP sc y pc L (.int b :: .int a :: S) h Q ↔ WP sc y (pc + 1) L (.int (a / b) :: S) h Q :=
  wp_on hd rfl (fun K CA => by simp only [ms_step, ms_bin, if_neg hb])
theorem wp_rem {a b : Int32} (hd : decode (ms_B y) pc = .ok (.irem, 1)) (hb : ¬ b = 0) : WP sc y pc L (.int b :: .int a :: S) h Q ↔ WP sc y (pc + 1) L (.int (a - a / b * b) :: S) h Q :=
  wp_on hd rfl (fun K CA => by simp only [ms_step, ms_bin, if_neg hb])
theorem wp_ldv {a b : Int64} (hd : decode (ms_B y) pc = .ok (.ldiv, 1)) (hb : ¬ b = 0) : WP sc y pc L (.long b :: .long a :: S) h Q ↔ WP sc y (pc + 1) L (.long (a / b) :: S) h Q :=
  wp_on hd rfl (fun K CA => by simp only [ms_step, if_neg hb])
theorem wp_lrm {a b : Int64} (hd : decode (ms_B y) pc = .ok (.lrem, 1)) (hb : ¬ b = 0) : WP sc y pc L (.long b :: .long a :: S) h Q ↔ WP sc y (pc + 1) L (.long (a - a / b * b) :: S) h Q :=
  wp_on hd rfl (fun K CA => by simp only [ms_step, if_neg hb])
theorem wp_set {ins : Instr} {len k pc' : Nat} {v : Value} {L' : List (Option Value)} {S' : List Value} (hd : decode (ms_B y) pc = .ok (ins, len)) (hl : ms_lenok ins len = true) (hs : ∀ (K : ms_KT) (CA : ms_CT), ms_step sc y pc K CA ins L S h = match ms_set L k v with
    | some L => K pc' L S' h
    | none => none) (he : ms_set L k v = some L') : WP sc y pc L S h Q ↔ WP sc y pc' L' S' h Q :=
  wp_on hd hl (fun K CA => by rw [hs, he])
theorem wp_set2 {ins : Instr} {len k pc' : Nat} {v : Value} {L' : List (Option Value)} {S' : List Value} (hd : decode (ms_B y) pc = .ok (ins, len)) (hl : ms_lenok ins len = true) (hs : ∀ (K : ms_KT) (CA : ms_CT), ms_step sc y pc K CA ins L S h = match ms_set2 L k v with
    | some L => K pc' L S' h
    | none => none) (he : ms_set2 L k v = some L') : WP sc y pc L S h Q ↔ WP sc y pc' L' S' h Q :=
  wp_on hd hl (fun K CA => by rw [hs, he])
theorem wp_max {i u : Nat} {a b : Int32} (hd : decode (ms_B y) pc = .ok (.invokestatic i, 3)) (hz : ms_c (ms_O y) i = some (u, 5)) (hf : 1 ≤ ms_F y) (hw : (S.map fun v => v.category).sum + 13 ≤ ms_W y) : WP sc y pc L (.int b :: .int a :: S) h Q ↔ WP sc y (pc + 3) L (.int (if a < b then b else a) :: S) h Q :=
  wp_on hd rfl (fun K CA => by simp only [ms_step, hz]; rw [if_pos ⟨hf, hw⟩])
theorem wp_min {i u : Nat} {a b : Int32} (hd : decode (ms_B y) pc = .ok (.invokestatic i, 3)) (hz : ms_c (ms_O y) i = some (u, 6)) (hf : 1 ≤ ms_F y) (hw : (S.map fun v => v.category).sum + 13 ≤ ms_W y) : WP sc y pc L (.int b :: .int a :: S) h Q ↔ WP sc y (pc + 3) L (.int (if b < a then b else a) :: S) h Q :=
  wp_on hd rfl (fun K CA => by simp only [ms_step, hz]; rw [if_pos ⟨hf, hw⟩])
theorem wp_iret {x : Int32} (hd : decode (ms_B y) pc = .ok (.ireturn, 1)) (hr : ms_R y = some .int) : WP sc y pc L [.int x] h Q ↔ Q (some (.int x)) h := by
  rw [wp_step hd rfl]
  simp only [ms_step, hr]
  simp
theorem wp_zret {x : Int32} (hd : decode (ms_B y) pc = .ok (.ireturn, 1)) (hr : ms_R y = some .boolean) : WP sc y pc L [.int x] h Q ↔ (x = 0 ∨ x = 1) ∧ Q (some (.int x)) h := by
  rw [wp_step hd rfl]
  simp only [ms_step, hr]
  by_cases hx : x = 0 ∨ x = 1
  · simp [hx]
  · simp [hx]
theorem wp_ret (hd : decode (ms_B y) pc = .ok (.return_, 1)) (hr : ms_R y = none) : WP sc y pc L [] h Q ↔ Q none h := by
  rw [wp_step hd rfl]
  simp only [ms_step, hr]
  simp
theorem wp_tabT {d lo hi off : Int} {os : Array Int} {len t : Nat} {x : Int32} (hd : decode (ms_B y) pc = .ok (.tableswitch d lo hi os, len)) (hx : ¬ (x.toInt < lo ∨ hi < x.toInt)) (ho : os[(x.toInt - lo).toNat]? = some off) (ht : (pc : Int) + off = (t : Int)) : WP sc y pc L (.int x :: S) h Q ↔ WP sc y t L S h Q := by
  refine wp_on hd rfl (fun K CA => ?_)
  simp only [ms_step, ms_go, if_neg hx, ho, ht]
theorem wp_tabD {d lo hi : Int} {os : Array Int} {len t : Nat} {x : Int32} (hd : decode (ms_B y) pc = .ok (.tableswitch d lo hi os, len)) (hx : x.toInt < lo ∨ hi < x.toInt) (ht : (pc : Int) + d = (t : Int)) : WP sc y pc L (.int x :: S) h Q ↔ WP sc y t L S h Q := by
  refine wp_on hd rfl (fun K CA => ?_)
  simp only [ms_step, ms_go, if_pos hx, ht]
theorem wp_lkp {d off : Int} {ps : Array (Int × Int)} {len t : Nat} {x : Int32} (hd : decode (ms_B y) pc = .ok (.lookupswitch d ps, len)) (hs : (ps.toList.zip (ps.toList.drop 1)).all (fun (a, next) => a.1 < next.1) = true) (ho : Op.lookupswitch.offset ps.toList d x.toInt = off) (ht : (pc : Int) + off = (t : Int)) : WP sc y pc L (.int x :: S) h Q ↔ WP sc y t L S h Q := by
  refine wp_on hd rfl (fun K CA => ?_)
  simp only [ms_step, ms_go]
  rw [if_pos hs, ho, ht]
theorem wp_virt' {i z a : Nat} {vs rest : List Value} (hcell : (ms_is h a (ms_O z)).isSome = true) (hd : decode (ms_B y) pc = .ok (.invokevirtual i, 3)) (hz : ms_c (ms_O y) i = some (z, 0)) (hv : vs.head? = some (.ref a)) (hS : S = vs.reverse ++ rest) (hn : vs.length = ms_A z) (hf : ms_F z + 1 ≤ ms_F y) (hw : 8 + (ms_L z + 11) + ms_W z ≤ ms_W y) (hc : (rest.map fun v => v.category).sum ≤ 8) (ha : (ms_args vs).length ≤ ms_L z) (hnd : vs.all ms_nd = true) : WP sc y pc L S h Q ↔ WP sc z 0 (ms_init vs (ms_L z)) [] h (fun r h1 => WP sc y (pc + 3) L (r.toList ++ rest) h1 Q) := by
  obtain ⟨fs, hfs⟩ := Option.isSome_iff_exists.mp hcell
  exact wp_virt hfs hd hz hv hS hn hf hw hc ha hnd
end WPR
def wn_ok (o : Option Value) : Bool := match o with
  | some (.long _) => false
  | some (.double _) => false
  | _ => true
theorem wn_i {x : Int32} : wn_ok (some (.int x)) = true := rfl
theorem wn_r {x : Nat} : wn_ok (some (.ref x)) = true := rfl
theorem wn_n : wn_ok none = true := rfl
theorem wn_f {x : UInt32} : wn_ok (some (.float x)) = true := rfl
theorem ms_set_ok {A B : List (Option Value)} {o p : Option Value} {v : Value} (h : wn_ok o = true) : ms_set (A ++ o :: p :: B) (A.length + 1) v = some (A ++ o :: some v :: B) := by
  unfold ms_set
  rw [if_pos (by simp)]
  have h1 : (A ++ o :: p :: B)[A.length]? = some o := by simp
  dsimp only
  rw [h1]
  have h2 : (A ++ o :: p :: B).set (A.length + 1) (some v) = A ++ o :: some v :: B := by
    rw [List.set_append_right _ _ (by omega)]
    simp
  rw [h2]
  cases o with
  | none => rfl
  | some w => cases w with
    | long x => cases h
    | double x => cases h
    | _ => rfl
theorem ms_set2_ok {A B : List (Option Value)} {o p p' : Option Value} {v : Value} (h : wn_ok o = true) : ms_set2 (A ++ o :: p :: p' :: B) (A.length + 1) v = some (A ++ o :: some v :: none :: B) := by
  unfold ms_set2
  rw [if_pos (by simp; omega)]
  have h1 : (A ++ o :: p :: p' :: B)[A.length]? = some o := by simp
  dsimp only
  rw [h1]
  have h2 : ((A ++ o :: p :: p' :: B).set (A.length + 1) (some v)).set (A.length + 2) none = A ++ o :: some v :: none :: B := by
    rw [List.set_append_right _ _ (by omega), List.set_append_right _ _ (by omega)]
    simp
  rw [h2]
  cases o with
  | none => rfl
  | some w => cases w with
    | long x => cases h
    | double x => cases h
    | _ => rfl
theorem ms_tout {x : Int32} {lo hi : Int} (h : ∀ k : Int, lo ≤ k → k ≤ hi → ¬ x.toInt = k) : x.toInt < lo ∨ hi < x.toInt := by
  have := h x.toInt
  omega
theorem ms_eqI {x y : Int32} (h : ¬ x = y) {k : Int} (hk : y.toInt = k) : ¬ x.toInt = k := fun q => h (Int32.toInt_inj.mp (q.trans hk.symm))
end
section
theorem s22_0 {sc : List Int32} {l1 l2 l3 : Option Value} {x : Nat} {S : List Value} {h : List ms_C} {Q : Option Value → List ms_C → Prop} : WP sc 22 0 [some (.ref x), l1, l2, l3] S h Q ↔ WP sc 22 1 [some (.ref x), l1, l2, l3] (.ref x :: S) h Q := wp_on (by decide +kernel : decode (ms_B 22) 0 = .ok (.aload_n 0, 1)) rfl (fun _ _ => rfl)
theorem s22_1 {sc : List Int32} {L : List (Option Value)} {a : Nat} {S : List Value} {h : List ms_C} {Q : Option Value → List ms_C → Prop} : WP sc 22 1 L (.ref a :: S) h Q ↔ wX (ms_get h a 4 6) (fun v => WP sc 22 4 L (v :: S) h Q) := wp_getf (by decide +kernel : decode (ms_B 22) 1 = .ok (.getfield 34, 3)) rfl
theorem s22_4 {sc : List Int32} {L : List (Option Value)} {S : List Value} {h : List ms_C} {Q : Option Value → List ms_C → Prop} : WP sc 22 4 L S h Q ↔ WP sc 22 6 L (.int (nI 6) :: S) h Q := wp_on (by decide +kernel : decode (ms_B 22) 4 = .ok (.bipush 6, 2)) rfl (fun _ _ => rfl)
theorem s22_6 {sc : List Int32} {L : List (Option Value)} {a b : Int32} {S : List Value} {h : List ms_C} {Q : Option Value → List ms_C → Prop} : WP sc 22 6 L (.int b :: .int a :: S) h Q ↔ (if b ≤ a then WP sc 22 38 L S h Q else WP sc 22 9 L S h Q) := wp_ifI (by decide +kernel : decode (ms_B 22) 6 = .ok (.if_icmp .ge 32, 3)) rfl Iff.rfl
theorem s22_9 {sc : List Int32} {l0 l2 l3 : Option Value} {x : Int32} {S : List Value} {h : List ms_C} {Q : Option Value → List ms_C → Prop} : WP sc 22 9 [l0, some (.int x), l2, l3] S h Q ↔ WP sc 22 10 [l0, some (.int x), l2, l3] (.int x :: S) h Q := wp_on (by decide +kernel : decode (ms_B 22) 9 = .ok (.iload_n 1, 1)) rfl (fun _ _ => rfl)
theorem s22_10 {sc : List Int32} {L : List (Option Value)} {S : List Value} {h : List ms_C} {Q : Option Value → List ms_C → Prop} : WP sc 22 10 L S h Q ↔ WP sc 22 11 L (.int (nI 0) :: S) h Q := wp_on (by decide +kernel : decode (ms_B 22) 10 = .ok (.iconst 0, 1)) rfl (fun _ _ => rfl)
theorem s22_11 {sc : List Int32} {L : List (Option Value)} {S : List Value} {h : List ms_C} {Q : Option Value → List ms_C → Prop} : WP sc 22 11 L S h Q ↔ WP sc 22 12 L (.int (nI 3) :: S) h Q := wp_on (by decide +kernel : decode (ms_B 22) 11 = .ok (.iconst 3, 1)) rfl (fun _ _ => rfl)
theorem s22_12 {sc : List Int32} {L : List (Option Value)} {x0 : Int32} {x1 : Int32} {x2 : Int32} {S : List Value} {h : List ms_C} {Q : Option Value → List ms_C → Prop} (hS : (S.map fun v => v.category).sum ≤ 8) : WP sc 22 12 L (.int x2 :: .int x1 :: .int x0 :: S) h Q ↔ WP sc 43 0 [some (.int x0), some (.int x1), some (.int x2)] [] h (fun r h1 => WP sc 22 15 L (r.toList ++ S) h1 Q) := wp_stat (vs := [.int x0, .int x1, .int x2]) (by decide +kernel : decode (ms_B 22) 12 = .ok (.invokestatic 46, 3)) (Or.inr rfl) rfl rfl (by decide) (by decide) hS (by simp [ms_args, ms_L, ms_Ll]) rfl
theorem s22_15 {sc : List Int32} {L : List (Option Value)} {a : Int32} {S : List Value} {h : List ms_C} {Q : Option Value → List ms_C → Prop} : WP sc 22 15 L (.int a :: S) h Q ↔ (if a = 0 then WP sc 22 38 L S h Q else WP sc 22 18 L S h Q) := wp_ifC (by decide +kernel : decode (ms_B 22) 15 = .ok (.ifCond .eq 23, 3)) rfl Iff.rfl
theorem s22_18 {sc : List Int32} {l0 l1 l3 : Option Value} {x : Int32} {S : List Value} {h : List ms_C} {Q : Option Value → List ms_C → Prop} : WP sc 22 18 [l0, l1, some (.int x), l3] S h Q ↔ WP sc 22 19 [l0, l1, some (.int x), l3] (.int x :: S) h Q := wp_on (by decide +kernel : decode (ms_B 22) 18 = .ok (.iload_n 2, 1)) rfl (fun _ _ => rfl)
theorem s22_19 {sc : List Int32} {L : List (Option Value)} {S : List Value} {h : List ms_C} {Q : Option Value → List ms_C → Prop} : WP sc 22 19 L S h Q ↔ WP sc 22 20 L (.int (nI 0) :: S) h Q := wp_on (by decide +kernel : decode (ms_B 22) 19 = .ok (.iconst 0, 1)) rfl (fun _ _ => rfl)
theorem s22_20 {sc : List Int32} {L : List (Option Value)} {S : List Value} {h : List ms_C} {Q : Option Value → List ms_C → Prop} : WP sc 22 20 L S h Q ↔ WP sc 22 22 L (.int (nI 99) :: S) h Q := wp_on (by decide +kernel : decode (ms_B 22) 20 = .ok (.bipush 99, 2)) rfl (fun _ _ => rfl)
theorem s22_22 {sc : List Int32} {L : List (Option Value)} {x0 : Int32} {x1 : Int32} {x2 : Int32} {S : List Value} {h : List ms_C} {Q : Option Value → List ms_C → Prop} (hS : (S.map fun v => v.category).sum ≤ 8) : WP sc 22 22 L (.int x2 :: .int x1 :: .int x0 :: S) h Q ↔ WP sc 43 0 [some (.int x0), some (.int x1), some (.int x2)] [] h (fun r h1 => WP sc 22 25 L (r.toList ++ S) h1 Q) := wp_stat (vs := [.int x0, .int x1, .int x2]) (by decide +kernel : decode (ms_B 22) 22 = .ok (.invokestatic 46, 3)) (Or.inr rfl) rfl rfl (by decide) (by decide) hS (by simp [ms_args, ms_L, ms_Ll]) rfl
theorem s22_25 {sc : List Int32} {L : List (Option Value)} {a : Int32} {S : List Value} {h : List ms_C} {Q : Option Value → List ms_C → Prop} : WP sc 22 25 L (.int a :: S) h Q ↔ (if a = 0 then WP sc 22 38 L S h Q else WP sc 22 28 L S h Q) := wp_ifC (by decide +kernel : decode (ms_B 22) 25 = .ok (.ifCond .eq 13, 3)) rfl Iff.rfl
theorem s22_28 {sc : List Int32} {l0 l1 l2 : Option Value} {x : Int32} {S : List Value} {h : List ms_C} {Q : Option Value → List ms_C → Prop} : WP sc 22 28 [l0, l1, l2, some (.int x)] S h Q ↔ WP sc 22 29 [l0, l1, l2, some (.int x)] (.int x :: S) h Q := wp_on (by decide +kernel : decode (ms_B 22) 28 = .ok (.iload_n 3, 1)) rfl (fun _ _ => rfl)
theorem s22_29 {sc : List Int32} {L : List (Option Value)} {S : List Value} {h : List ms_C} {Q : Option Value → List ms_C → Prop} : WP sc 22 29 L S h Q ↔ WP sc 22 30 L (.int (nI 0) :: S) h Q := wp_on (by decide +kernel : decode (ms_B 22) 29 = .ok (.iconst 0, 1)) rfl (fun _ _ => rfl)
theorem s22_30 {sc : List Int32} {L : List (Option Value)} {S : List Value} {h : List ms_C} {Q : Option Value → List ms_C → Prop} : WP sc 22 30 L S h Q ↔ WP sc 22 32 L (.int (nI 9) :: S) h Q := wp_on (by decide +kernel : decode (ms_B 22) 30 = .ok (.bipush 9, 2)) rfl (fun _ _ => rfl)
theorem s22_32 {sc : List Int32} {L : List (Option Value)} {x0 : Int32} {x1 : Int32} {x2 : Int32} {S : List Value} {h : List ms_C} {Q : Option Value → List ms_C → Prop} (hS : (S.map fun v => v.category).sum ≤ 8) : WP sc 22 32 L (.int x2 :: .int x1 :: .int x0 :: S) h Q ↔ WP sc 43 0 [some (.int x0), some (.int x1), some (.int x2)] [] h (fun r h1 => WP sc 22 35 L (r.toList ++ S) h1 Q) := wp_stat (vs := [.int x0, .int x1, .int x2]) (by decide +kernel : decode (ms_B 22) 32 = .ok (.invokestatic 46, 3)) (Or.inr rfl) rfl rfl (by decide) (by decide) hS (by simp [ms_args, ms_L, ms_Ll]) rfl
theorem s22_35 {sc : List Int32} {L : List (Option Value)} {a : Int32} {S : List Value} {h : List ms_C} {Q : Option Value → List ms_C → Prop} : WP sc 22 35 L (.int a :: S) h Q ↔ (if a = 0 then WP sc 22 38 L S h Q else WP sc 22 40 L S h Q) := (wp_ifC (c := ¬ a = 0) (by decide +kernel : decode (ms_B 22) 35 = .ok (.ifCond .ne 5, 3)) rfl Iff.rfl).trans (by rw [ite_not])
theorem s22_38 {sc : List Int32} {L : List (Option Value)} {S : List Value} {h : List ms_C} {Q : Option Value → List ms_C → Prop} : WP sc 22 38 L S h Q ↔ WP sc 22 39 L (.int (nI 0) :: S) h Q := wp_on (by decide +kernel : decode (ms_B 22) 38 = .ok (.iconst 0, 1)) rfl (fun _ _ => rfl)
theorem s22_39 {sc : List Int32} {L : List (Option Value)} {x : Int32} {h : List ms_C} {Q : Option Value → List ms_C → Prop} : WP sc 22 39 L [.int x] h Q ↔ (x = 0 ∨ x = 1) ∧ Q (some (.int x)) h := wp_zret (by decide +kernel : decode (ms_B 22) 39 = .ok (.ireturn, 1)) rfl
theorem s22_40 {sc : List Int32} {l1 l2 l3 : Option Value} {x : Nat} {S : List Value} {h : List ms_C} {Q : Option Value → List ms_C → Prop} : WP sc 22 40 [some (.ref x), l1, l2, l3] S h Q ↔ WP sc 22 41 [some (.ref x), l1, l2, l3] (.ref x :: S) h Q := wp_on (by decide +kernel : decode (ms_B 22) 40 = .ok (.aload_n 0, 1)) rfl (fun _ _ => rfl)
theorem s22_41 {sc : List Int32} {L : List (Option Value)} {a : Nat} {S : List Value} {h : List ms_C} {Q : Option Value → List ms_C → Prop} : WP sc 22 41 L (.ref a :: S) h Q ↔ wX (ms_get h a 4 0) (fun v => WP sc 22 44 L (v :: S) h Q) := wp_getf (by decide +kernel : decode (ms_B 22) 41 = .ok (.getfield 9, 3)) rfl
theorem s22_44 {sc : List Int32} {l1 l2 l3 : Option Value} {x : Nat} {S : List Value} {h : List ms_C} {Q : Option Value → List ms_C → Prop} : WP sc 22 44 [some (.ref x), l1, l2, l3] S h Q ↔ WP sc 22 45 [some (.ref x), l1, l2, l3] (.ref x :: S) h Q := wp_on (by decide +kernel : decode (ms_B 22) 44 = .ok (.aload_n 0, 1)) rfl (fun _ _ => rfl)
theorem s22_45 {sc : List Int32} {L : List (Option Value)} {a : Nat} {S : List Value} {h : List ms_C} {Q : Option Value → List ms_C → Prop} : WP sc 22 45 L (.ref a :: S) h Q ↔ wX (ms_get h a 4 6) (fun v => WP sc 22 48 L (v :: S) h Q) := wp_getf (by decide +kernel : decode (ms_B 22) 45 = .ok (.getfield 34, 3)) rfl
theorem s22_48 {sc : List Int32} {l0 l2 l3 : Option Value} {x : Int32} {S : List Value} {h : List ms_C} {Q : Option Value → List ms_C → Prop} : WP sc 22 48 [l0, some (.int x), l2, l3] S h Q ↔ WP sc 22 49 [l0, some (.int x), l2, l3] (.int x :: S) h Q := wp_on (by decide +kernel : decode (ms_B 22) 48 = .ok (.iload_n 1, 1)) rfl (fun _ _ => rfl)
theorem s22_49 {sc : List Int32} {L : List (Option Value)} {a : Nat} {i x : Int32} {S : List Value} {h : List ms_C} {Q : Option Value → List ms_C → Prop} : WP sc 22 49 L (.int x :: .int i :: .ref a :: S) h Q ↔ wX (ms_arr h a) (fun l => wX (ms_iat i l.length) (fun j => WP sc 22 50 L S (h.set a (ms_ia (l.set j x))) Q)) := wp_iast (by decide +kernel : decode (ms_B 22) 49 = .ok (.iastore, 1))
theorem s22_50 {sc : List Int32} {l1 l2 l3 : Option Value} {x : Nat} {S : List Value} {h : List ms_C} {Q : Option Value → List ms_C → Prop} : WP sc 22 50 [some (.ref x), l1, l2, l3] S h Q ↔ WP sc 22 51 [some (.ref x), l1, l2, l3] (.ref x :: S) h Q := wp_on (by decide +kernel : decode (ms_B 22) 50 = .ok (.aload_n 0, 1)) rfl (fun _ _ => rfl)
theorem s22_51 {sc : List Int32} {L : List (Option Value)} {a : Nat} {S : List Value} {h : List ms_C} {Q : Option Value → List ms_C → Prop} : WP sc 22 51 L (.ref a :: S) h Q ↔ wX (ms_get h a 4 1) (fun v => WP sc 22 54 L (v :: S) h Q) := wp_getf (by decide +kernel : decode (ms_B 22) 51 = .ok (.getfield 15, 3)) rfl
theorem s22_54 {sc : List Int32} {l1 l2 l3 : Option Value} {x : Nat} {S : List Value} {h : List ms_C} {Q : Option Value → List ms_C → Prop} : WP sc 22 54 [some (.ref x), l1, l2, l3] S h Q ↔ WP sc 22 55 [some (.ref x), l1, l2, l3] (.ref x :: S) h Q := wp_on (by decide +kernel : decode (ms_B 22) 54 = .ok (.aload_n 0, 1)) rfl (fun _ _ => rfl)
theorem s22_55 {sc : List Int32} {L : List (Option Value)} {a : Nat} {S : List Value} {h : List ms_C} {Q : Option Value → List ms_C → Prop} : WP sc 22 55 L (.ref a :: S) h Q ↔ wX (ms_get h a 4 6) (fun v => WP sc 22 58 L (v :: S) h Q) := wp_getf (by decide +kernel : decode (ms_B 22) 55 = .ok (.getfield 34, 3)) rfl
theorem s22_58 {sc : List Int32} {l0 l1 l3 : Option Value} {x : Int32} {S : List Value} {h : List ms_C} {Q : Option Value → List ms_C → Prop} : WP sc 22 58 [l0, l1, some (.int x), l3] S h Q ↔ WP sc 22 59 [l0, l1, some (.int x), l3] (.int x :: S) h Q := wp_on (by decide +kernel : decode (ms_B 22) 58 = .ok (.iload_n 2, 1)) rfl (fun _ _ => rfl)
theorem s22_59 {sc : List Int32} {L : List (Option Value)} {a : Nat} {i x : Int32} {S : List Value} {h : List ms_C} {Q : Option Value → List ms_C → Prop} : WP sc 22 59 L (.int x :: .int i :: .ref a :: S) h Q ↔ wX (ms_arr h a) (fun l => wX (ms_iat i l.length) (fun j => WP sc 22 60 L S (h.set a (ms_ia (l.set j x))) Q)) := wp_iast (by decide +kernel : decode (ms_B 22) 59 = .ok (.iastore, 1))
theorem s22_60 {sc : List Int32} {l1 l2 l3 : Option Value} {x : Nat} {S : List Value} {h : List ms_C} {Q : Option Value → List ms_C → Prop} : WP sc 22 60 [some (.ref x), l1, l2, l3] S h Q ↔ WP sc 22 61 [some (.ref x), l1, l2, l3] (.ref x :: S) h Q := wp_on (by decide +kernel : decode (ms_B 22) 60 = .ok (.aload_n 0, 1)) rfl (fun _ _ => rfl)
theorem s22_61 {sc : List Int32} {L : List (Option Value)} {a : Nat} {S : List Value} {h : List ms_C} {Q : Option Value → List ms_C → Prop} : WP sc 22 61 L (.ref a :: S) h Q ↔ wX (ms_get h a 4 2) (fun v => WP sc 22 64 L (v :: S) h Q) := wp_getf (by decide +kernel : decode (ms_B 22) 61 = .ok (.getfield 18, 3)) rfl
theorem s22_64 {sc : List Int32} {l1 l2 l3 : Option Value} {x : Nat} {S : List Value} {h : List ms_C} {Q : Option Value → List ms_C → Prop} : WP sc 22 64 [some (.ref x), l1, l2, l3] S h Q ↔ WP sc 22 65 [some (.ref x), l1, l2, l3] (.ref x :: S) h Q := wp_on (by decide +kernel : decode (ms_B 22) 64 = .ok (.aload_n 0, 1)) rfl (fun _ _ => rfl)
theorem s22_65 {sc : List Int32} {L : List (Option Value)} {a : Nat} {S : List Value} {h : List ms_C} {Q : Option Value → List ms_C → Prop} : WP sc 22 65 L (.ref a :: S) h Q ↔ wX (ms_get h a 4 6) (fun v => WP sc 22 68 L (v :: S) h Q) := wp_getf (by decide +kernel : decode (ms_B 22) 65 = .ok (.getfield 34, 3)) rfl
theorem s22_68 {sc : List Int32} {l0 l1 l2 : Option Value} {x : Int32} {S : List Value} {h : List ms_C} {Q : Option Value → List ms_C → Prop} : WP sc 22 68 [l0, l1, l2, some (.int x)] S h Q ↔ WP sc 22 69 [l0, l1, l2, some (.int x)] (.int x :: S) h Q := wp_on (by decide +kernel : decode (ms_B 22) 68 = .ok (.iload_n 3, 1)) rfl (fun _ _ => rfl)
theorem s22_69 {sc : List Int32} {L : List (Option Value)} {a : Nat} {i x : Int32} {S : List Value} {h : List ms_C} {Q : Option Value → List ms_C → Prop} : WP sc 22 69 L (.int x :: .int i :: .ref a :: S) h Q ↔ wX (ms_arr h a) (fun l => wX (ms_iat i l.length) (fun j => WP sc 22 70 L S (h.set a (ms_ia (l.set j x))) Q)) := wp_iast (by decide +kernel : decode (ms_B 22) 69 = .ok (.iastore, 1))
theorem s22_70 {sc : List Int32} {l1 l2 l3 : Option Value} {x : Nat} {S : List Value} {h : List ms_C} {Q : Option Value → List ms_C → Prop} : WP sc 22 70 [some (.ref x), l1, l2, l3] S h Q ↔ WP sc 22 71 [some (.ref x), l1, l2, l3] (.ref x :: S) h Q := wp_on (by decide +kernel : decode (ms_B 22) 70 = .ok (.aload_n 0, 1)) rfl (fun _ _ => rfl)
theorem s22_71 {sc : List Int32} {L : List (Option Value)} {a : Nat} {S : List Value} {h : List ms_C} {Q : Option Value → List ms_C → Prop} : WP sc 22 71 L (.ref a :: S) h Q ↔ wX (ms_get h a 4 3) (fun v => WP sc 22 74 L (v :: S) h Q) := wp_getf (by decide +kernel : decode (ms_B 22) 71 = .ok (.getfield 21, 3)) rfl
theorem s22_74 {sc : List Int32} {l1 l2 l3 : Option Value} {x : Nat} {S : List Value} {h : List ms_C} {Q : Option Value → List ms_C → Prop} : WP sc 22 74 [some (.ref x), l1, l2, l3] S h Q ↔ WP sc 22 75 [some (.ref x), l1, l2, l3] (.ref x :: S) h Q := wp_on (by decide +kernel : decode (ms_B 22) 74 = .ok (.aload_n 0, 1)) rfl (fun _ _ => rfl)
theorem s22_75 {sc : List Int32} {L : List (Option Value)} {a : Nat} {S : List Value} {h : List ms_C} {Q : Option Value → List ms_C → Prop} : WP sc 22 75 L (.ref a :: S) h Q ↔ wX (ms_get h a 4 6) (fun v => WP sc 22 78 L (v :: S) h Q) := wp_getf (by decide +kernel : decode (ms_B 22) 75 = .ok (.getfield 34, 3)) rfl
theorem s22_78 {sc : List Int32} {L : List (Option Value)} {S : List Value} {h : List ms_C} {Q : Option Value → List ms_C → Prop} : WP sc 22 78 L S h Q ↔ WP sc 22 79 L (.int (nI 0) :: S) h Q := wp_on (by decide +kernel : decode (ms_B 22) 78 = .ok (.iconst 0, 1)) rfl (fun _ _ => rfl)
theorem s22_79 {sc : List Int32} {L : List (Option Value)} {a : Nat} {i x : Int32} {S : List Value} {h : List ms_C} {Q : Option Value → List ms_C → Prop} : WP sc 22 79 L (.int x :: .int i :: .ref a :: S) h Q ↔ wX (ms_arr h a) (fun l => wX (ms_iat i l.length) (fun j => WP sc 22 80 L S (h.set a (ms_ia (l.set j x))) Q)) := wp_iast (by decide +kernel : decode (ms_B 22) 79 = .ok (.iastore, 1))
theorem s22_80 {sc : List Int32} {l1 l2 l3 : Option Value} {x : Nat} {S : List Value} {h : List ms_C} {Q : Option Value → List ms_C → Prop} : WP sc 22 80 [some (.ref x), l1, l2, l3] S h Q ↔ WP sc 22 81 [some (.ref x), l1, l2, l3] (.ref x :: S) h Q := wp_on (by decide +kernel : decode (ms_B 22) 80 = .ok (.aload_n 0, 1)) rfl (fun _ _ => rfl)
theorem s22_81 {sc : List Int32} {L : List (Option Value)} {a : Nat} {S : List Value} {h : List ms_C} {Q : Option Value → List ms_C → Prop} : WP sc 22 81 L (.ref a :: S) h Q ↔ wX (ms_get h a 4 4) (fun v => WP sc 22 84 L (v :: S) h Q) := wp_getf (by decide +kernel : decode (ms_B 22) 81 = .ok (.getfield 24, 3)) rfl
theorem s22_84 {sc : List Int32} {l1 l2 l3 : Option Value} {x : Nat} {S : List Value} {h : List ms_C} {Q : Option Value → List ms_C → Prop} : WP sc 22 84 [some (.ref x), l1, l2, l3] S h Q ↔ WP sc 22 85 [some (.ref x), l1, l2, l3] (.ref x :: S) h Q := wp_on (by decide +kernel : decode (ms_B 22) 84 = .ok (.aload_n 0, 1)) rfl (fun _ _ => rfl)
theorem s22_85 {sc : List Int32} {L : List (Option Value)} {a : Nat} {S : List Value} {h : List ms_C} {Q : Option Value → List ms_C → Prop} : WP sc 22 85 L (.ref a :: S) h Q ↔ wX (ms_get h a 4 6) (fun v => WP sc 22 88 L (v :: S) h Q) := wp_getf (by decide +kernel : decode (ms_B 22) 85 = .ok (.getfield 34, 3)) rfl
theorem s22_88 {sc : List Int32} {L : List (Option Value)} {S : List Value} {h : List ms_C} {Q : Option Value → List ms_C → Prop} : WP sc 22 88 L S h Q ↔ WP sc 22 89 L (.int (nI 0) :: S) h Q := wp_on (by decide +kernel : decode (ms_B 22) 88 = .ok (.iconst 0, 1)) rfl (fun _ _ => rfl)
theorem s22_89 {sc : List Int32} {L : List (Option Value)} {a : Nat} {i x : Int32} {S : List Value} {h : List ms_C} {Q : Option Value → List ms_C → Prop} : WP sc 22 89 L (.int x :: .int i :: .ref a :: S) h Q ↔ wX (ms_arr h a) (fun l => wX (ms_iat i l.length) (fun j => WP sc 22 90 L S (h.set a (ms_ia (l.set j x))) Q)) := wp_iast (by decide +kernel : decode (ms_B 22) 89 = .ok (.iastore, 1))
theorem s22_90 {sc : List Int32} {l1 l2 l3 : Option Value} {x : Nat} {S : List Value} {h : List ms_C} {Q : Option Value → List ms_C → Prop} : WP sc 22 90 [some (.ref x), l1, l2, l3] S h Q ↔ WP sc 22 91 [some (.ref x), l1, l2, l3] (.ref x :: S) h Q := wp_on (by decide +kernel : decode (ms_B 22) 90 = .ok (.aload_n 0, 1)) rfl (fun _ _ => rfl)
theorem s22_91 {sc : List Int32} {L : List (Option Value)} {a : Nat} {S : List Value} {h : List ms_C} {Q : Option Value → List ms_C → Prop} : WP sc 22 91 L (.ref a :: S) h Q ↔ WP sc 22 92 L (.ref a :: .ref a :: S) h Q := wp_on (by decide +kernel : decode (ms_B 22) 91 = .ok (.dup, 1)) rfl (fun _ _ => rfl)
theorem s22_92 {sc : List Int32} {L : List (Option Value)} {a : Nat} {S : List Value} {h : List ms_C} {Q : Option Value → List ms_C → Prop} : WP sc 22 92 L (.ref a :: S) h Q ↔ wX (ms_get h a 4 6) (fun v => WP sc 22 95 L (v :: S) h Q) := wp_getf (by decide +kernel : decode (ms_B 22) 92 = .ok (.getfield 34, 3)) rfl
theorem s22_95 {sc : List Int32} {L : List (Option Value)} {S : List Value} {h : List ms_C} {Q : Option Value → List ms_C → Prop} : WP sc 22 95 L S h Q ↔ WP sc 22 96 L (.int (nI 1) :: S) h Q := wp_on (by decide +kernel : decode (ms_B 22) 95 = .ok (.iconst 1, 1)) rfl (fun _ _ => rfl)
theorem s22_96 {sc : List Int32} {L : List (Option Value)} {a b : Int32} {S : List Value} {h : List ms_C} {Q : Option Value → List ms_C → Prop} : WP sc 22 96 L (.int b :: .int a :: S) h Q ↔ WP sc 22 97 L (.int (a + b) :: S) h Q := wp_on (by decide +kernel : decode (ms_B 22) 96 = .ok (.iadd, 1)) rfl (fun _ _ => rfl)
theorem s22_97 {sc : List Int32} {L : List (Option Value)} {a : Nat} {x : Int32} {S : List Value} {h : List ms_C} {Q : Option Value → List ms_C → Prop} : WP sc 22 97 L (.int x :: .ref a :: S) h Q ↔ wX (ms_is h a 4) (fun fs => 6 < fs.length ∧ WP sc 22 100 L S (h.set a (ms_obj 4 (fs.set 6 (.int x)))) Q) := wp_put (by decide +kernel : decode (ms_B 22) 97 = .ok (.putfield 34, 3)) rfl rfl (by decide) rfl rfl
theorem s22_100 {sc : List Int32} {L : List (Option Value)} {S : List Value} {h : List ms_C} {Q : Option Value → List ms_C → Prop} : WP sc 22 100 L S h Q ↔ WP sc 22 101 L (.int (nI 1) :: S) h Q := wp_on (by decide +kernel : decode (ms_B 22) 100 = .ok (.iconst 1, 1)) rfl (fun _ _ => rfl)
theorem s22_101 {sc : List Int32} {L : List (Option Value)} {x : Int32} {h : List ms_C} {Q : Option Value → List ms_C → Prop} : WP sc 22 101 L [.int x] h Q ↔ (x = 0 ∨ x = 1) ∧ Q (some (.int x)) h := wp_zret (by decide +kernel : decode (ms_B 22) 101 = .ok (.ireturn, 1)) rfl
theorem s23_0 {sc : List Int32} {l1 : Option Value} {x : Nat} {S : List Value} {h : List ms_C} {Q : Option Value → List ms_C → Prop} : WP sc 23 0 [some (.ref x), l1] S h Q ↔ WP sc 23 1 [some (.ref x), l1] (.ref x :: S) h Q := wp_on (by decide +kernel : decode (ms_B 23) 0 = .ok (.aload_n 0, 1)) rfl (fun _ _ => rfl)
theorem s23_1 {sc : List Int32} {L : List (Option Value)} {a : Nat} {S : List Value} {h : List ms_C} {Q : Option Value → List ms_C → Prop} : WP sc 23 1 L (.ref a :: S) h Q ↔ wX (ms_get h a 4 7) (fun v => WP sc 23 4 L (v :: S) h Q) := wp_getf (by decide +kernel : decode (ms_B 23) 1 = .ok (.getfield 37, 3)) rfl
theorem s23_4 {sc : List Int32} {L : List (Option Value)} {S : List Value} {h : List ms_C} {Q : Option Value → List ms_C → Prop} : WP sc 23 4 L S h Q ↔ WP sc 23 6 L (.int (nI 6) :: S) h Q := wp_on (by decide +kernel : decode (ms_B 23) 4 = .ok (.bipush 6, 2)) rfl (fun _ _ => rfl)
theorem s23_6 {sc : List Int32} {L : List (Option Value)} {a b : Int32} {S : List Value} {h : List ms_C} {Q : Option Value → List ms_C → Prop} : WP sc 23 6 L (.int b :: .int a :: S) h Q ↔ (if b ≤ a then WP sc 23 19 L S h Q else WP sc 23 9 L S h Q) := wp_ifI (by decide +kernel : decode (ms_B 23) 6 = .ok (.if_icmp .ge 13, 3)) rfl Iff.rfl
theorem s23_9 {sc : List Int32} {l0 : Option Value} {x : Int32} {S : List Value} {h : List ms_C} {Q : Option Value → List ms_C → Prop} : WP sc 23 9 [l0, some (.int x)] S h Q ↔ WP sc 23 10 [l0, some (.int x)] (.int x :: S) h Q := wp_on (by decide +kernel : decode (ms_B 23) 9 = .ok (.iload_n 1, 1)) rfl (fun _ _ => rfl)
theorem s23_10 {sc : List Int32} {L : List (Option Value)} {S : List Value} {h : List ms_C} {Q : Option Value → List ms_C → Prop} : WP sc 23 10 L S h Q ↔ WP sc 23 11 L (.int (nI 1) :: S) h Q := wp_on (by decide +kernel : decode (ms_B 23) 10 = .ok (.iconst 1, 1)) rfl (fun _ _ => rfl)
theorem s23_11 {sc : List Int32} {L : List (Option Value)} {S : List Value} {h : List ms_C} {Q : Option Value → List ms_C → Prop} : WP sc 23 11 L S h Q ↔ WP sc 23 13 L (.int (nI 40) :: S) h Q := wp_on (by decide +kernel : decode (ms_B 23) 11 = .ok (.bipush 40, 2)) rfl (fun _ _ => rfl)
theorem s23_13 {sc : List Int32} {L : List (Option Value)} {x0 : Int32} {x1 : Int32} {x2 : Int32} {S : List Value} {h : List ms_C} {Q : Option Value → List ms_C → Prop} (hS : (S.map fun v => v.category).sum ≤ 8) : WP sc 23 13 L (.int x2 :: .int x1 :: .int x0 :: S) h Q ↔ WP sc 43 0 [some (.int x0), some (.int x1), some (.int x2)] [] h (fun r h1 => WP sc 23 16 L (r.toList ++ S) h1 Q) := wp_stat (vs := [.int x0, .int x1, .int x2]) (by decide +kernel : decode (ms_B 23) 13 = .ok (.invokestatic 46, 3)) (Or.inr rfl) rfl rfl (by decide) (by decide) hS (by simp [ms_args, ms_L, ms_Ll]) rfl
theorem s23_16 {sc : List Int32} {L : List (Option Value)} {a : Int32} {S : List Value} {h : List ms_C} {Q : Option Value → List ms_C → Prop} : WP sc 23 16 L (.int a :: S) h Q ↔ (if a = 0 then WP sc 23 19 L S h Q else WP sc 23 21 L S h Q) := (wp_ifC (c := ¬ a = 0) (by decide +kernel : decode (ms_B 23) 16 = .ok (.ifCond .ne 5, 3)) rfl Iff.rfl).trans (by rw [ite_not])
theorem s23_19 {sc : List Int32} {L : List (Option Value)} {S : List Value} {h : List ms_C} {Q : Option Value → List ms_C → Prop} : WP sc 23 19 L S h Q ↔ WP sc 23 20 L (.int (nI 0) :: S) h Q := wp_on (by decide +kernel : decode (ms_B 23) 19 = .ok (.iconst 0, 1)) rfl (fun _ _ => rfl)
theorem s23_20 {sc : List Int32} {L : List (Option Value)} {x : Int32} {h : List ms_C} {Q : Option Value → List ms_C → Prop} : WP sc 23 20 L [.int x] h Q ↔ (x = 0 ∨ x = 1) ∧ Q (some (.int x)) h := wp_zret (by decide +kernel : decode (ms_B 23) 20 = .ok (.ireturn, 1)) rfl
theorem s23_21 {sc : List Int32} {l1 : Option Value} {x : Nat} {S : List Value} {h : List ms_C} {Q : Option Value → List ms_C → Prop} : WP sc 23 21 [some (.ref x), l1] S h Q ↔ WP sc 23 22 [some (.ref x), l1] (.ref x :: S) h Q := wp_on (by decide +kernel : decode (ms_B 23) 21 = .ok (.aload_n 0, 1)) rfl (fun _ _ => rfl)
theorem s23_22 {sc : List Int32} {L : List (Option Value)} {a : Nat} {S : List Value} {h : List ms_C} {Q : Option Value → List ms_C → Prop} : WP sc 23 22 L (.ref a :: S) h Q ↔ wX (ms_get h a 4 5) (fun v => WP sc 23 25 L (v :: S) h Q) := wp_getf (by decide +kernel : decode (ms_B 23) 22 = .ok (.getfield 27, 3)) rfl
theorem s23_25 {sc : List Int32} {l1 : Option Value} {x : Nat} {S : List Value} {h : List ms_C} {Q : Option Value → List ms_C → Prop} : WP sc 23 25 [some (.ref x), l1] S h Q ↔ WP sc 23 26 [some (.ref x), l1] (.ref x :: S) h Q := wp_on (by decide +kernel : decode (ms_B 23) 25 = .ok (.aload_n 0, 1)) rfl (fun _ _ => rfl)
theorem s23_26 {sc : List Int32} {L : List (Option Value)} {a : Nat} {S : List Value} {h : List ms_C} {Q : Option Value → List ms_C → Prop} : WP sc 23 26 L (.ref a :: S) h Q ↔ wX (ms_get h a 4 7) (fun v => WP sc 23 29 L (v :: S) h Q) := wp_getf (by decide +kernel : decode (ms_B 23) 26 = .ok (.getfield 37, 3)) rfl
theorem s23_29 {sc : List Int32} {l0 : Option Value} {x : Int32} {S : List Value} {h : List ms_C} {Q : Option Value → List ms_C → Prop} : WP sc 23 29 [l0, some (.int x)] S h Q ↔ WP sc 23 30 [l0, some (.int x)] (.int x :: S) h Q := wp_on (by decide +kernel : decode (ms_B 23) 29 = .ok (.iload_n 1, 1)) rfl (fun _ _ => rfl)
theorem s23_30 {sc : List Int32} {L : List (Option Value)} {a : Nat} {i x : Int32} {S : List Value} {h : List ms_C} {Q : Option Value → List ms_C → Prop} : WP sc 23 30 L (.int x :: .int i :: .ref a :: S) h Q ↔ wX (ms_arr h a) (fun l => wX (ms_iat i l.length) (fun j => WP sc 23 31 L S (h.set a (ms_ia (l.set j x))) Q)) := wp_iast (by decide +kernel : decode (ms_B 23) 30 = .ok (.iastore, 1))
theorem s23_31 {sc : List Int32} {l1 : Option Value} {x : Nat} {S : List Value} {h : List ms_C} {Q : Option Value → List ms_C → Prop} : WP sc 23 31 [some (.ref x), l1] S h Q ↔ WP sc 23 32 [some (.ref x), l1] (.ref x :: S) h Q := wp_on (by decide +kernel : decode (ms_B 23) 31 = .ok (.aload_n 0, 1)) rfl (fun _ _ => rfl)
theorem s23_32 {sc : List Int32} {L : List (Option Value)} {a : Nat} {S : List Value} {h : List ms_C} {Q : Option Value → List ms_C → Prop} : WP sc 23 32 L (.ref a :: S) h Q ↔ WP sc 23 33 L (.ref a :: .ref a :: S) h Q := wp_on (by decide +kernel : decode (ms_B 23) 32 = .ok (.dup, 1)) rfl (fun _ _ => rfl)
theorem s23_33 {sc : List Int32} {L : List (Option Value)} {a : Nat} {S : List Value} {h : List ms_C} {Q : Option Value → List ms_C → Prop} : WP sc 23 33 L (.ref a :: S) h Q ↔ wX (ms_get h a 4 7) (fun v => WP sc 23 36 L (v :: S) h Q) := wp_getf (by decide +kernel : decode (ms_B 23) 33 = .ok (.getfield 37, 3)) rfl
theorem s23_36 {sc : List Int32} {L : List (Option Value)} {S : List Value} {h : List ms_C} {Q : Option Value → List ms_C → Prop} : WP sc 23 36 L S h Q ↔ WP sc 23 37 L (.int (nI 1) :: S) h Q := wp_on (by decide +kernel : decode (ms_B 23) 36 = .ok (.iconst 1, 1)) rfl (fun _ _ => rfl)
theorem s23_37 {sc : List Int32} {L : List (Option Value)} {a b : Int32} {S : List Value} {h : List ms_C} {Q : Option Value → List ms_C → Prop} : WP sc 23 37 L (.int b :: .int a :: S) h Q ↔ WP sc 23 38 L (.int (a + b) :: S) h Q := wp_on (by decide +kernel : decode (ms_B 23) 37 = .ok (.iadd, 1)) rfl (fun _ _ => rfl)
theorem s23_38 {sc : List Int32} {L : List (Option Value)} {a : Nat} {x : Int32} {S : List Value} {h : List ms_C} {Q : Option Value → List ms_C → Prop} : WP sc 23 38 L (.int x :: .ref a :: S) h Q ↔ wX (ms_is h a 4) (fun fs => 7 < fs.length ∧ WP sc 23 41 L S (h.set a (ms_obj 4 (fs.set 7 (.int x)))) Q) := wp_put (by decide +kernel : decode (ms_B 23) 38 = .ok (.putfield 37, 3)) rfl rfl (by decide) rfl rfl
theorem s23_41 {sc : List Int32} {L : List (Option Value)} {S : List Value} {h : List ms_C} {Q : Option Value → List ms_C → Prop} : WP sc 23 41 L S h Q ↔ WP sc 23 42 L (.int (nI 1) :: S) h Q := wp_on (by decide +kernel : decode (ms_B 23) 41 = .ok (.iconst 1, 1)) rfl (fun _ _ => rfl)
theorem s23_42 {sc : List Int32} {L : List (Option Value)} {x : Int32} {h : List ms_C} {Q : Option Value → List ms_C → Prop} : WP sc 23 42 L [.int x] h Q ↔ (x = 0 ∨ x = 1) ∧ Q (some (.int x)) h := wp_zret (by decide +kernel : decode (ms_B 23) 42 = .ok (.ireturn, 1)) rfl
theorem s24_0 {sc : List Int32} {x : Nat} {S : List Value} {h : List ms_C} {Q : Option Value → List ms_C → Prop} : WP sc 24 0 [some (.ref x)] S h Q ↔ WP sc 24 1 [some (.ref x)] (.ref x :: S) h Q := wp_on (by decide +kernel : decode (ms_B 24) 0 = .ok (.aload_n 0, 1)) rfl (fun _ _ => rfl)
theorem s24_1 {sc : List Int32} {L : List (Option Value)} {S : List Value} {h : List ms_C} {Q : Option Value → List ms_C → Prop} : WP sc 24 1 L S h Q ↔ WP sc 24 2 L (.int (nI 0) :: S) h Q := wp_on (by decide +kernel : decode (ms_B 24) 1 = .ok (.iconst 0, 1)) rfl (fun _ _ => rfl)
theorem s24_2 {sc : List Int32} {L : List (Option Value)} {a : Nat} {x : Int32} {S : List Value} {h : List ms_C} {Q : Option Value → List ms_C → Prop} : WP sc 24 2 L (.int x :: .ref a :: S) h Q ↔ wX (ms_is h a 4) (fun fs => 6 < fs.length ∧ WP sc 24 5 L S (h.set a (ms_obj 4 (fs.set 6 (.int x)))) Q) := wp_put (by decide +kernel : decode (ms_B 24) 2 = .ok (.putfield 34, 3)) rfl rfl (by decide) rfl rfl
theorem s24_5 {sc : List Int32} {x : Nat} {S : List Value} {h : List ms_C} {Q : Option Value → List ms_C → Prop} : WP sc 24 5 [some (.ref x)] S h Q ↔ WP sc 24 6 [some (.ref x)] (.ref x :: S) h Q := wp_on (by decide +kernel : decode (ms_B 24) 5 = .ok (.aload_n 0, 1)) rfl (fun _ _ => rfl)
theorem s24_6 {sc : List Int32} {L : List (Option Value)} {S : List Value} {h : List ms_C} {Q : Option Value → List ms_C → Prop} : WP sc 24 6 L S h Q ↔ WP sc 24 7 L (.int (nI 0) :: S) h Q := wp_on (by decide +kernel : decode (ms_B 24) 6 = .ok (.iconst 0, 1)) rfl (fun _ _ => rfl)
theorem s24_7 {sc : List Int32} {L : List (Option Value)} {a : Nat} {x : Int32} {S : List Value} {h : List ms_C} {Q : Option Value → List ms_C → Prop} : WP sc 24 7 L (.int x :: .ref a :: S) h Q ↔ wX (ms_is h a 4) (fun fs => 7 < fs.length ∧ WP sc 24 10 L S (h.set a (ms_obj 4 (fs.set 7 (.int x)))) Q) := wp_put (by decide +kernel : decode (ms_B 24) 7 = .ok (.putfield 37, 3)) rfl rfl (by decide) rfl rfl
theorem s24_10 {sc : List Int32} {x : Nat} {S : List Value} {h : List ms_C} {Q : Option Value → List ms_C → Prop} : WP sc 24 10 [some (.ref x)] S h Q ↔ WP sc 24 11 [some (.ref x)] (.ref x :: S) h Q := wp_on (by decide +kernel : decode (ms_B 24) 10 = .ok (.aload_n 0, 1)) rfl (fun _ _ => rfl)
theorem s24_11 {sc : List Int32} {L : List (Option Value)} {S : List Value} {h : List ms_C} {Q : Option Value → List ms_C → Prop} : WP sc 24 11 L S h Q ↔ WP sc 24 12 L (.int (nI 0) :: S) h Q := wp_on (by decide +kernel : decode (ms_B 24) 11 = .ok (.iconst 0, 1)) rfl (fun _ _ => rfl)
theorem s24_12 {sc : List Int32} {L : List (Option Value)} {a : Nat} {x : Int32} {S : List Value} {h : List ms_C} {Q : Option Value → List ms_C → Prop} : WP sc 24 12 L (.int x :: .ref a :: S) h Q ↔ wX (ms_is h a 4) (fun fs => 8 < fs.length ∧ WP sc 24 15 L S (h.set a (ms_obj 4 (fs.set 8 (.int x)))) Q) := wp_put (by decide +kernel : decode (ms_B 24) 12 = .ok (.putfield 40, 3)) rfl rfl (by decide) rfl rfl
theorem s24_15 {sc : List Int32} {x : Nat} {S : List Value} {h : List ms_C} {Q : Option Value → List ms_C → Prop} : WP sc 24 15 [some (.ref x)] S h Q ↔ WP sc 24 16 [some (.ref x)] (.ref x :: S) h Q := wp_on (by decide +kernel : decode (ms_B 24) 15 = .ok (.aload_n 0, 1)) rfl (fun _ _ => rfl)
theorem s24_16 {sc : List Int32} {L : List (Option Value)} {S : List Value} {h : List ms_C} {Q : Option Value → List ms_C → Prop} : WP sc 24 16 L S h Q ↔ WP sc 24 18 L (.int (-4) :: S) h Q := wp_on (by decide +kernel : decode (ms_B 24) 16 = .ok (.bipush (-4), 2)) rfl (fun _ _ => rfl)
theorem s24_18 {sc : List Int32} {L : List (Option Value)} {a : Nat} {x : Int32} {S : List Value} {h : List ms_C} {Q : Option Value → List ms_C → Prop} : WP sc 24 18 L (.int x :: .ref a :: S) h Q ↔ wX (ms_is h a 4) (fun fs => 9 < fs.length ∧ WP sc 24 21 L S (h.set a (ms_obj 4 (fs.set 9 (.int x)))) Q) := wp_put (by decide +kernel : decode (ms_B 24) 18 = .ok (.putfield 30, 3)) rfl rfl (by decide) rfl rfl
theorem s24_21 {sc : List Int32} {x : Nat} {S : List Value} {h : List ms_C} {Q : Option Value → List ms_C → Prop} : WP sc 24 21 [some (.ref x)] S h Q ↔ WP sc 24 22 [some (.ref x)] (.ref x :: S) h Q := wp_on (by decide +kernel : decode (ms_B 24) 21 = .ok (.aload_n 0, 1)) rfl (fun _ _ => rfl)
theorem s24_22 {sc : List Int32} {L : List (Option Value)} {S : List Value} {h : List ms_C} {Q : Option Value → List ms_C → Prop} : WP sc 24 22 L S h Q ↔ WP sc 24 23 L (.int (nI 0) :: S) h Q := wp_on (by decide +kernel : decode (ms_B 24) 22 = .ok (.iconst 0, 1)) rfl (fun _ _ => rfl)
theorem s24_23 {sc : List Int32} {L : List (Option Value)} {a : Nat} {x : Int32} {S : List Value} {h : List ms_C} {Q : Option Value → List ms_C → Prop} : WP sc 24 23 L (.int x :: .ref a :: S) h Q ↔ wX (ms_is h a 4) (fun fs => 10 < fs.length ∧ WP sc 24 26 L S (h.set a (ms_obj 4 (fs.set 10 (.int x)))) Q) := wp_put (by decide +kernel : decode (ms_B 24) 23 = .ok (.putfield 43, 3)) rfl rfl (by decide) rfl rfl
theorem s24_26 {sc : List Int32} {L : List (Option Value)} {h : List ms_C} {Q : Option Value → List ms_C → Prop} : WP sc 24 26 L [] h Q ↔ Q none h := wp_ret (by decide +kernel : decode (ms_B 24) 26 = .ok (.return_, 1)) rfl
theorem s25_0 {sc : List Int32} {L : List (Option Value)} {S : List Value} {h : List ms_C} {Q : Option Value → List ms_C → Prop} : WP sc 25 0 L S h Q ↔ WP sc 25 1 L (.int (nI 0) :: S) h Q := wp_on (by decide +kernel : decode (ms_B 25) 0 = .ok (.iconst 0, 1)) rfl (fun _ _ => rfl)
theorem s25_1 {sc : List Int32} {l0 l1 l2 : Option Value} {x : Int32} {S : List Value} {h : List ms_C} {Q : Option Value → List ms_C → Prop} (hn : wn_ok l1 = true) : WP sc 25 1 [l0, l1, l2] (.int x :: S) h Q ↔ WP sc 25 2 [l0, l1, some (.int x)] S h Q := wp_set (by decide +kernel : decode (ms_B 25) 1 = .ok (.istore_n 2, 1)) rfl (fun _ _ => rfl) (ms_set_ok (A := [l0]) hn)
theorem s25_2 {sc : List Int32} {l0 l1 : Option Value} {x : Int32} {S : List Value} {h : List ms_C} {Q : Option Value → List ms_C → Prop} : WP sc 25 2 [l0, l1, some (.int x)] S h Q ↔ WP sc 25 3 [l0, l1, some (.int x)] (.int x :: S) h Q := wp_on (by decide +kernel : decode (ms_B 25) 2 = .ok (.iload_n 2, 1)) rfl (fun _ _ => rfl)
theorem s25_3 {sc : List Int32} {L : List (Option Value)} {S : List Value} {h : List ms_C} {Q : Option Value → List ms_C → Prop} : WP sc 25 3 L S h Q ↔ WP sc 25 5 L (.int (nI 6) :: S) h Q := wp_on (by decide +kernel : decode (ms_B 25) 3 = .ok (.bipush 6, 2)) rfl (fun _ _ => rfl)
theorem s25_5 {sc : List Int32} {L : List (Option Value)} {a b : Int32} {S : List Value} {h : List ms_C} {Q : Option Value → List ms_C → Prop} : WP sc 25 5 L (.int b :: .int a :: S) h Q ↔ (if b ≤ a then WP sc 25 74 L S h Q else WP sc 25 8 L S h Q) := wp_ifI (by decide +kernel : decode (ms_B 25) 5 = .ok (.if_icmp .ge 69, 3)) rfl Iff.rfl
theorem s25_8 {sc : List Int32} {l1 l2 : Option Value} {x : Nat} {S : List Value} {h : List ms_C} {Q : Option Value → List ms_C → Prop} : WP sc 25 8 [some (.ref x), l1, l2] S h Q ↔ WP sc 25 9 [some (.ref x), l1, l2] (.ref x :: S) h Q := wp_on (by decide +kernel : decode (ms_B 25) 8 = .ok (.aload_n 0, 1)) rfl (fun _ _ => rfl)
theorem s25_9 {sc : List Int32} {L : List (Option Value)} {a : Nat} {S : List Value} {h : List ms_C} {Q : Option Value → List ms_C → Prop} : WP sc 25 9 L (.ref a :: S) h Q ↔ wX (ms_get h a 4 0) (fun v => WP sc 25 12 L (v :: S) h Q) := wp_getf (by decide +kernel : decode (ms_B 25) 9 = .ok (.getfield 9, 3)) rfl
theorem s25_12 {sc : List Int32} {l0 l1 : Option Value} {x : Int32} {S : List Value} {h : List ms_C} {Q : Option Value → List ms_C → Prop} : WP sc 25 12 [l0, l1, some (.int x)] S h Q ↔ WP sc 25 13 [l0, l1, some (.int x)] (.int x :: S) h Q := wp_on (by decide +kernel : decode (ms_B 25) 12 = .ok (.iload_n 2, 1)) rfl (fun _ _ => rfl)
theorem s25_13 {sc : List Int32} {l0 l2 : Option Value} {x : Nat} {S : List Value} {h : List ms_C} {Q : Option Value → List ms_C → Prop} : WP sc 25 13 [l0, some (.ref x), l2] S h Q ↔ WP sc 25 14 [l0, some (.ref x), l2] (.ref x :: S) h Q := wp_on (by decide +kernel : decode (ms_B 25) 13 = .ok (.aload_n 1, 1)) rfl (fun _ _ => rfl)
theorem s25_14 {sc : List Int32} {L : List (Option Value)} {a : Nat} {S : List Value} {h : List ms_C} {Q : Option Value → List ms_C → Prop} : WP sc 25 14 L (.ref a :: S) h Q ↔ wX (ms_get h a 4 0) (fun v => WP sc 25 17 L (v :: S) h Q) := wp_getf (by decide +kernel : decode (ms_B 25) 14 = .ok (.getfield 9, 3)) rfl
theorem s25_17 {sc : List Int32} {l0 l1 : Option Value} {x : Int32} {S : List Value} {h : List ms_C} {Q : Option Value → List ms_C → Prop} : WP sc 25 17 [l0, l1, some (.int x)] S h Q ↔ WP sc 25 18 [l0, l1, some (.int x)] (.int x :: S) h Q := wp_on (by decide +kernel : decode (ms_B 25) 17 = .ok (.iload_n 2, 1)) rfl (fun _ _ => rfl)
theorem s25_18 {sc : List Int32} {L : List (Option Value)} {a : Nat} {i : Int32} {S : List Value} {h : List ms_C} {Q : Option Value → List ms_C → Prop} : WP sc 25 18 L (.int i :: .ref a :: S) h Q ↔ wX (ms_arr h a) (fun l => wX (ms_iat i l.length) (fun j => WP sc 25 19 L (.int (l.getD j 0) :: S) h Q)) := wp_iald (by decide +kernel : decode (ms_B 25) 18 = .ok (.iaload, 1))
theorem s25_19 {sc : List Int32} {L : List (Option Value)} {a : Nat} {i x : Int32} {S : List Value} {h : List ms_C} {Q : Option Value → List ms_C → Prop} : WP sc 25 19 L (.int x :: .int i :: .ref a :: S) h Q ↔ wX (ms_arr h a) (fun l => wX (ms_iat i l.length) (fun j => WP sc 25 20 L S (h.set a (ms_ia (l.set j x))) Q)) := wp_iast (by decide +kernel : decode (ms_B 25) 19 = .ok (.iastore, 1))
theorem s25_20 {sc : List Int32} {l1 l2 : Option Value} {x : Nat} {S : List Value} {h : List ms_C} {Q : Option Value → List ms_C → Prop} : WP sc 25 20 [some (.ref x), l1, l2] S h Q ↔ WP sc 25 21 [some (.ref x), l1, l2] (.ref x :: S) h Q := wp_on (by decide +kernel : decode (ms_B 25) 20 = .ok (.aload_n 0, 1)) rfl (fun _ _ => rfl)
theorem s25_21 {sc : List Int32} {L : List (Option Value)} {a : Nat} {S : List Value} {h : List ms_C} {Q : Option Value → List ms_C → Prop} : WP sc 25 21 L (.ref a :: S) h Q ↔ wX (ms_get h a 4 1) (fun v => WP sc 25 24 L (v :: S) h Q) := wp_getf (by decide +kernel : decode (ms_B 25) 21 = .ok (.getfield 15, 3)) rfl
theorem s25_24 {sc : List Int32} {l0 l1 : Option Value} {x : Int32} {S : List Value} {h : List ms_C} {Q : Option Value → List ms_C → Prop} : WP sc 25 24 [l0, l1, some (.int x)] S h Q ↔ WP sc 25 25 [l0, l1, some (.int x)] (.int x :: S) h Q := wp_on (by decide +kernel : decode (ms_B 25) 24 = .ok (.iload_n 2, 1)) rfl (fun _ _ => rfl)
theorem s25_25 {sc : List Int32} {l0 l2 : Option Value} {x : Nat} {S : List Value} {h : List ms_C} {Q : Option Value → List ms_C → Prop} : WP sc 25 25 [l0, some (.ref x), l2] S h Q ↔ WP sc 25 26 [l0, some (.ref x), l2] (.ref x :: S) h Q := wp_on (by decide +kernel : decode (ms_B 25) 25 = .ok (.aload_n 1, 1)) rfl (fun _ _ => rfl)
theorem s25_26 {sc : List Int32} {L : List (Option Value)} {a : Nat} {S : List Value} {h : List ms_C} {Q : Option Value → List ms_C → Prop} : WP sc 25 26 L (.ref a :: S) h Q ↔ wX (ms_get h a 4 1) (fun v => WP sc 25 29 L (v :: S) h Q) := wp_getf (by decide +kernel : decode (ms_B 25) 26 = .ok (.getfield 15, 3)) rfl
theorem s25_29 {sc : List Int32} {l0 l1 : Option Value} {x : Int32} {S : List Value} {h : List ms_C} {Q : Option Value → List ms_C → Prop} : WP sc 25 29 [l0, l1, some (.int x)] S h Q ↔ WP sc 25 30 [l0, l1, some (.int x)] (.int x :: S) h Q := wp_on (by decide +kernel : decode (ms_B 25) 29 = .ok (.iload_n 2, 1)) rfl (fun _ _ => rfl)
theorem s25_30 {sc : List Int32} {L : List (Option Value)} {a : Nat} {i : Int32} {S : List Value} {h : List ms_C} {Q : Option Value → List ms_C → Prop} : WP sc 25 30 L (.int i :: .ref a :: S) h Q ↔ wX (ms_arr h a) (fun l => wX (ms_iat i l.length) (fun j => WP sc 25 31 L (.int (l.getD j 0) :: S) h Q)) := wp_iald (by decide +kernel : decode (ms_B 25) 30 = .ok (.iaload, 1))
theorem s25_31 {sc : List Int32} {L : List (Option Value)} {a : Nat} {i x : Int32} {S : List Value} {h : List ms_C} {Q : Option Value → List ms_C → Prop} : WP sc 25 31 L (.int x :: .int i :: .ref a :: S) h Q ↔ wX (ms_arr h a) (fun l => wX (ms_iat i l.length) (fun j => WP sc 25 32 L S (h.set a (ms_ia (l.set j x))) Q)) := wp_iast (by decide +kernel : decode (ms_B 25) 31 = .ok (.iastore, 1))
theorem s25_32 {sc : List Int32} {l1 l2 : Option Value} {x : Nat} {S : List Value} {h : List ms_C} {Q : Option Value → List ms_C → Prop} : WP sc 25 32 [some (.ref x), l1, l2] S h Q ↔ WP sc 25 33 [some (.ref x), l1, l2] (.ref x :: S) h Q := wp_on (by decide +kernel : decode (ms_B 25) 32 = .ok (.aload_n 0, 1)) rfl (fun _ _ => rfl)
theorem s25_33 {sc : List Int32} {L : List (Option Value)} {a : Nat} {S : List Value} {h : List ms_C} {Q : Option Value → List ms_C → Prop} : WP sc 25 33 L (.ref a :: S) h Q ↔ wX (ms_get h a 4 2) (fun v => WP sc 25 36 L (v :: S) h Q) := wp_getf (by decide +kernel : decode (ms_B 25) 33 = .ok (.getfield 18, 3)) rfl
theorem s25_36 {sc : List Int32} {l0 l1 : Option Value} {x : Int32} {S : List Value} {h : List ms_C} {Q : Option Value → List ms_C → Prop} : WP sc 25 36 [l0, l1, some (.int x)] S h Q ↔ WP sc 25 37 [l0, l1, some (.int x)] (.int x :: S) h Q := wp_on (by decide +kernel : decode (ms_B 25) 36 = .ok (.iload_n 2, 1)) rfl (fun _ _ => rfl)
theorem s25_37 {sc : List Int32} {l0 l2 : Option Value} {x : Nat} {S : List Value} {h : List ms_C} {Q : Option Value → List ms_C → Prop} : WP sc 25 37 [l0, some (.ref x), l2] S h Q ↔ WP sc 25 38 [l0, some (.ref x), l2] (.ref x :: S) h Q := wp_on (by decide +kernel : decode (ms_B 25) 37 = .ok (.aload_n 1, 1)) rfl (fun _ _ => rfl)
theorem s25_38 {sc : List Int32} {L : List (Option Value)} {a : Nat} {S : List Value} {h : List ms_C} {Q : Option Value → List ms_C → Prop} : WP sc 25 38 L (.ref a :: S) h Q ↔ wX (ms_get h a 4 2) (fun v => WP sc 25 41 L (v :: S) h Q) := wp_getf (by decide +kernel : decode (ms_B 25) 38 = .ok (.getfield 18, 3)) rfl
theorem s25_41 {sc : List Int32} {l0 l1 : Option Value} {x : Int32} {S : List Value} {h : List ms_C} {Q : Option Value → List ms_C → Prop} : WP sc 25 41 [l0, l1, some (.int x)] S h Q ↔ WP sc 25 42 [l0, l1, some (.int x)] (.int x :: S) h Q := wp_on (by decide +kernel : decode (ms_B 25) 41 = .ok (.iload_n 2, 1)) rfl (fun _ _ => rfl)
theorem s25_42 {sc : List Int32} {L : List (Option Value)} {a : Nat} {i : Int32} {S : List Value} {h : List ms_C} {Q : Option Value → List ms_C → Prop} : WP sc 25 42 L (.int i :: .ref a :: S) h Q ↔ wX (ms_arr h a) (fun l => wX (ms_iat i l.length) (fun j => WP sc 25 43 L (.int (l.getD j 0) :: S) h Q)) := wp_iald (by decide +kernel : decode (ms_B 25) 42 = .ok (.iaload, 1))
theorem s25_43 {sc : List Int32} {L : List (Option Value)} {a : Nat} {i x : Int32} {S : List Value} {h : List ms_C} {Q : Option Value → List ms_C → Prop} : WP sc 25 43 L (.int x :: .int i :: .ref a :: S) h Q ↔ wX (ms_arr h a) (fun l => wX (ms_iat i l.length) (fun j => WP sc 25 44 L S (h.set a (ms_ia (l.set j x))) Q)) := wp_iast (by decide +kernel : decode (ms_B 25) 43 = .ok (.iastore, 1))
theorem s25_44 {sc : List Int32} {l1 l2 : Option Value} {x : Nat} {S : List Value} {h : List ms_C} {Q : Option Value → List ms_C → Prop} : WP sc 25 44 [some (.ref x), l1, l2] S h Q ↔ WP sc 25 45 [some (.ref x), l1, l2] (.ref x :: S) h Q := wp_on (by decide +kernel : decode (ms_B 25) 44 = .ok (.aload_n 0, 1)) rfl (fun _ _ => rfl)
theorem s25_45 {sc : List Int32} {L : List (Option Value)} {a : Nat} {S : List Value} {h : List ms_C} {Q : Option Value → List ms_C → Prop} : WP sc 25 45 L (.ref a :: S) h Q ↔ wX (ms_get h a 4 3) (fun v => WP sc 25 48 L (v :: S) h Q) := wp_getf (by decide +kernel : decode (ms_B 25) 45 = .ok (.getfield 21, 3)) rfl
theorem s25_48 {sc : List Int32} {l0 l1 : Option Value} {x : Int32} {S : List Value} {h : List ms_C} {Q : Option Value → List ms_C → Prop} : WP sc 25 48 [l0, l1, some (.int x)] S h Q ↔ WP sc 25 49 [l0, l1, some (.int x)] (.int x :: S) h Q := wp_on (by decide +kernel : decode (ms_B 25) 48 = .ok (.iload_n 2, 1)) rfl (fun _ _ => rfl)
theorem s25_49 {sc : List Int32} {l0 l2 : Option Value} {x : Nat} {S : List Value} {h : List ms_C} {Q : Option Value → List ms_C → Prop} : WP sc 25 49 [l0, some (.ref x), l2] S h Q ↔ WP sc 25 50 [l0, some (.ref x), l2] (.ref x :: S) h Q := wp_on (by decide +kernel : decode (ms_B 25) 49 = .ok (.aload_n 1, 1)) rfl (fun _ _ => rfl)
theorem s25_50 {sc : List Int32} {L : List (Option Value)} {a : Nat} {S : List Value} {h : List ms_C} {Q : Option Value → List ms_C → Prop} : WP sc 25 50 L (.ref a :: S) h Q ↔ wX (ms_get h a 4 3) (fun v => WP sc 25 53 L (v :: S) h Q) := wp_getf (by decide +kernel : decode (ms_B 25) 50 = .ok (.getfield 21, 3)) rfl
theorem s25_53 {sc : List Int32} {l0 l1 : Option Value} {x : Int32} {S : List Value} {h : List ms_C} {Q : Option Value → List ms_C → Prop} : WP sc 25 53 [l0, l1, some (.int x)] S h Q ↔ WP sc 25 54 [l0, l1, some (.int x)] (.int x :: S) h Q := wp_on (by decide +kernel : decode (ms_B 25) 53 = .ok (.iload_n 2, 1)) rfl (fun _ _ => rfl)
theorem s25_54 {sc : List Int32} {L : List (Option Value)} {a : Nat} {i : Int32} {S : List Value} {h : List ms_C} {Q : Option Value → List ms_C → Prop} : WP sc 25 54 L (.int i :: .ref a :: S) h Q ↔ wX (ms_arr h a) (fun l => wX (ms_iat i l.length) (fun j => WP sc 25 55 L (.int (l.getD j 0) :: S) h Q)) := wp_iald (by decide +kernel : decode (ms_B 25) 54 = .ok (.iaload, 1))
theorem s25_55 {sc : List Int32} {L : List (Option Value)} {a : Nat} {i x : Int32} {S : List Value} {h : List ms_C} {Q : Option Value → List ms_C → Prop} : WP sc 25 55 L (.int x :: .int i :: .ref a :: S) h Q ↔ wX (ms_arr h a) (fun l => wX (ms_iat i l.length) (fun j => WP sc 25 56 L S (h.set a (ms_ia (l.set j x))) Q)) := wp_iast (by decide +kernel : decode (ms_B 25) 55 = .ok (.iastore, 1))
theorem s25_56 {sc : List Int32} {l1 l2 : Option Value} {x : Nat} {S : List Value} {h : List ms_C} {Q : Option Value → List ms_C → Prop} : WP sc 25 56 [some (.ref x), l1, l2] S h Q ↔ WP sc 25 57 [some (.ref x), l1, l2] (.ref x :: S) h Q := wp_on (by decide +kernel : decode (ms_B 25) 56 = .ok (.aload_n 0, 1)) rfl (fun _ _ => rfl)
theorem s25_57 {sc : List Int32} {L : List (Option Value)} {a : Nat} {S : List Value} {h : List ms_C} {Q : Option Value → List ms_C → Prop} : WP sc 25 57 L (.ref a :: S) h Q ↔ wX (ms_get h a 4 4) (fun v => WP sc 25 60 L (v :: S) h Q) := wp_getf (by decide +kernel : decode (ms_B 25) 57 = .ok (.getfield 24, 3)) rfl
theorem s25_60 {sc : List Int32} {l0 l1 : Option Value} {x : Int32} {S : List Value} {h : List ms_C} {Q : Option Value → List ms_C → Prop} : WP sc 25 60 [l0, l1, some (.int x)] S h Q ↔ WP sc 25 61 [l0, l1, some (.int x)] (.int x :: S) h Q := wp_on (by decide +kernel : decode (ms_B 25) 60 = .ok (.iload_n 2, 1)) rfl (fun _ _ => rfl)
theorem s25_61 {sc : List Int32} {l0 l2 : Option Value} {x : Nat} {S : List Value} {h : List ms_C} {Q : Option Value → List ms_C → Prop} : WP sc 25 61 [l0, some (.ref x), l2] S h Q ↔ WP sc 25 62 [l0, some (.ref x), l2] (.ref x :: S) h Q := wp_on (by decide +kernel : decode (ms_B 25) 61 = .ok (.aload_n 1, 1)) rfl (fun _ _ => rfl)
theorem s25_62 {sc : List Int32} {L : List (Option Value)} {a : Nat} {S : List Value} {h : List ms_C} {Q : Option Value → List ms_C → Prop} : WP sc 25 62 L (.ref a :: S) h Q ↔ wX (ms_get h a 4 4) (fun v => WP sc 25 65 L (v :: S) h Q) := wp_getf (by decide +kernel : decode (ms_B 25) 62 = .ok (.getfield 24, 3)) rfl
theorem s25_65 {sc : List Int32} {l0 l1 : Option Value} {x : Int32} {S : List Value} {h : List ms_C} {Q : Option Value → List ms_C → Prop} : WP sc 25 65 [l0, l1, some (.int x)] S h Q ↔ WP sc 25 66 [l0, l1, some (.int x)] (.int x :: S) h Q := wp_on (by decide +kernel : decode (ms_B 25) 65 = .ok (.iload_n 2, 1)) rfl (fun _ _ => rfl)
theorem s25_66 {sc : List Int32} {L : List (Option Value)} {a : Nat} {i : Int32} {S : List Value} {h : List ms_C} {Q : Option Value → List ms_C → Prop} : WP sc 25 66 L (.int i :: .ref a :: S) h Q ↔ wX (ms_arr h a) (fun l => wX (ms_iat i l.length) (fun j => WP sc 25 67 L (.int (l.getD j 0) :: S) h Q)) := wp_iald (by decide +kernel : decode (ms_B 25) 66 = .ok (.iaload, 1))
theorem s25_67 {sc : List Int32} {L : List (Option Value)} {a : Nat} {i x : Int32} {S : List Value} {h : List ms_C} {Q : Option Value → List ms_C → Prop} : WP sc 25 67 L (.int x :: .int i :: .ref a :: S) h Q ↔ wX (ms_arr h a) (fun l => wX (ms_iat i l.length) (fun j => WP sc 25 68 L S (h.set a (ms_ia (l.set j x))) Q)) := wp_iast (by decide +kernel : decode (ms_B 25) 67 = .ok (.iastore, 1))
theorem s25_68 {sc : List Int32} {l0 l1 : Option Value} {x : Int32} {S : List Value} {h : List ms_C} {Q : Option Value → List ms_C → Prop} (hn : wn_ok l1 = true) : WP sc 25 68 [l0, l1, some (.int x)] S h Q ↔ WP sc 25 71 [l0, l1, some (.int (x + (nI 1)))] S h Q := wp_set (by decide +kernel : decode (ms_B 25) 68 = .ok (.iinc 2 1, 3)) rfl (fun _ _ => rfl) (ms_set_ok (A := [l0]) hn)
theorem s25_71 {sc : List Int32} {L : List (Option Value)} {S : List Value} {h : List ms_C} {Q : Option Value → List ms_C → Prop} : WP sc 25 71 L S h Q ↔ WP sc 25 2 L S h Q := wp_goto (by decide +kernel : decode (ms_B 25) 71 = .ok (.goto (-69), 3)) rfl
theorem s25_74 {sc : List Int32} {L : List (Option Value)} {S : List Value} {h : List ms_C} {Q : Option Value → List ms_C → Prop} : WP sc 25 74 L S h Q ↔ WP sc 25 75 L (.int (nI 0) :: S) h Q := wp_on (by decide +kernel : decode (ms_B 25) 74 = .ok (.iconst 0, 1)) rfl (fun _ _ => rfl)
theorem s25_75 {sc : List Int32} {l0 l1 l2 : Option Value} {x : Int32} {S : List Value} {h : List ms_C} {Q : Option Value → List ms_C → Prop} (hn : wn_ok l1 = true) : WP sc 25 75 [l0, l1, l2] (.int x :: S) h Q ↔ WP sc 25 76 [l0, l1, some (.int x)] S h Q := wp_set (by decide +kernel : decode (ms_B 25) 75 = .ok (.istore_n 2, 1)) rfl (fun _ _ => rfl) (ms_set_ok (A := [l0]) hn)
theorem s25_76 {sc : List Int32} {l0 l1 : Option Value} {x : Int32} {S : List Value} {h : List ms_C} {Q : Option Value → List ms_C → Prop} : WP sc 25 76 [l0, l1, some (.int x)] S h Q ↔ WP sc 25 77 [l0, l1, some (.int x)] (.int x :: S) h Q := wp_on (by decide +kernel : decode (ms_B 25) 76 = .ok (.iload_n 2, 1)) rfl (fun _ _ => rfl)
theorem s25_77 {sc : List Int32} {L : List (Option Value)} {S : List Value} {h : List ms_C} {Q : Option Value → List ms_C → Prop} : WP sc 25 77 L S h Q ↔ WP sc 25 79 L (.int (nI 6) :: S) h Q := wp_on (by decide +kernel : decode (ms_B 25) 77 = .ok (.bipush 6, 2)) rfl (fun _ _ => rfl)
theorem s25_79 {sc : List Int32} {L : List (Option Value)} {a b : Int32} {S : List Value} {h : List ms_C} {Q : Option Value → List ms_C → Prop} : WP sc 25 79 L (.int b :: .int a :: S) h Q ↔ (if b ≤ a then WP sc 25 100 L S h Q else WP sc 25 82 L S h Q) := wp_ifI (by decide +kernel : decode (ms_B 25) 79 = .ok (.if_icmp .ge 21, 3)) rfl Iff.rfl
theorem s25_82 {sc : List Int32} {l1 l2 : Option Value} {x : Nat} {S : List Value} {h : List ms_C} {Q : Option Value → List ms_C → Prop} : WP sc 25 82 [some (.ref x), l1, l2] S h Q ↔ WP sc 25 83 [some (.ref x), l1, l2] (.ref x :: S) h Q := wp_on (by decide +kernel : decode (ms_B 25) 82 = .ok (.aload_n 0, 1)) rfl (fun _ _ => rfl)
theorem s25_83 {sc : List Int32} {L : List (Option Value)} {a : Nat} {S : List Value} {h : List ms_C} {Q : Option Value → List ms_C → Prop} : WP sc 25 83 L (.ref a :: S) h Q ↔ wX (ms_get h a 4 5) (fun v => WP sc 25 86 L (v :: S) h Q) := wp_getf (by decide +kernel : decode (ms_B 25) 83 = .ok (.getfield 27, 3)) rfl
theorem s25_86 {sc : List Int32} {l0 l1 : Option Value} {x : Int32} {S : List Value} {h : List ms_C} {Q : Option Value → List ms_C → Prop} : WP sc 25 86 [l0, l1, some (.int x)] S h Q ↔ WP sc 25 87 [l0, l1, some (.int x)] (.int x :: S) h Q := wp_on (by decide +kernel : decode (ms_B 25) 86 = .ok (.iload_n 2, 1)) rfl (fun _ _ => rfl)
theorem s25_87 {sc : List Int32} {l0 l2 : Option Value} {x : Nat} {S : List Value} {h : List ms_C} {Q : Option Value → List ms_C → Prop} : WP sc 25 87 [l0, some (.ref x), l2] S h Q ↔ WP sc 25 88 [l0, some (.ref x), l2] (.ref x :: S) h Q := wp_on (by decide +kernel : decode (ms_B 25) 87 = .ok (.aload_n 1, 1)) rfl (fun _ _ => rfl)
theorem s25_88 {sc : List Int32} {L : List (Option Value)} {a : Nat} {S : List Value} {h : List ms_C} {Q : Option Value → List ms_C → Prop} : WP sc 25 88 L (.ref a :: S) h Q ↔ wX (ms_get h a 4 5) (fun v => WP sc 25 91 L (v :: S) h Q) := wp_getf (by decide +kernel : decode (ms_B 25) 88 = .ok (.getfield 27, 3)) rfl
theorem s25_91 {sc : List Int32} {l0 l1 : Option Value} {x : Int32} {S : List Value} {h : List ms_C} {Q : Option Value → List ms_C → Prop} : WP sc 25 91 [l0, l1, some (.int x)] S h Q ↔ WP sc 25 92 [l0, l1, some (.int x)] (.int x :: S) h Q := wp_on (by decide +kernel : decode (ms_B 25) 91 = .ok (.iload_n 2, 1)) rfl (fun _ _ => rfl)
theorem s25_92 {sc : List Int32} {L : List (Option Value)} {a : Nat} {i : Int32} {S : List Value} {h : List ms_C} {Q : Option Value → List ms_C → Prop} : WP sc 25 92 L (.int i :: .ref a :: S) h Q ↔ wX (ms_arr h a) (fun l => wX (ms_iat i l.length) (fun j => WP sc 25 93 L (.int (l.getD j 0) :: S) h Q)) := wp_iald (by decide +kernel : decode (ms_B 25) 92 = .ok (.iaload, 1))
theorem s25_93 {sc : List Int32} {L : List (Option Value)} {a : Nat} {i x : Int32} {S : List Value} {h : List ms_C} {Q : Option Value → List ms_C → Prop} : WP sc 25 93 L (.int x :: .int i :: .ref a :: S) h Q ↔ wX (ms_arr h a) (fun l => wX (ms_iat i l.length) (fun j => WP sc 25 94 L S (h.set a (ms_ia (l.set j x))) Q)) := wp_iast (by decide +kernel : decode (ms_B 25) 93 = .ok (.iastore, 1))
theorem s25_94 {sc : List Int32} {l0 l1 : Option Value} {x : Int32} {S : List Value} {h : List ms_C} {Q : Option Value → List ms_C → Prop} (hn : wn_ok l1 = true) : WP sc 25 94 [l0, l1, some (.int x)] S h Q ↔ WP sc 25 97 [l0, l1, some (.int (x + (nI 1)))] S h Q := wp_set (by decide +kernel : decode (ms_B 25) 94 = .ok (.iinc 2 1, 3)) rfl (fun _ _ => rfl) (ms_set_ok (A := [l0]) hn)
theorem s25_97 {sc : List Int32} {L : List (Option Value)} {S : List Value} {h : List ms_C} {Q : Option Value → List ms_C → Prop} : WP sc 25 97 L S h Q ↔ WP sc 25 76 L S h Q := wp_goto (by decide +kernel : decode (ms_B 25) 97 = .ok (.goto (-21), 3)) rfl
theorem s25_100 {sc : List Int32} {l1 l2 : Option Value} {x : Nat} {S : List Value} {h : List ms_C} {Q : Option Value → List ms_C → Prop} : WP sc 25 100 [some (.ref x), l1, l2] S h Q ↔ WP sc 25 101 [some (.ref x), l1, l2] (.ref x :: S) h Q := wp_on (by decide +kernel : decode (ms_B 25) 100 = .ok (.aload_n 0, 1)) rfl (fun _ _ => rfl)
theorem s25_101 {sc : List Int32} {l0 l2 : Option Value} {x : Nat} {S : List Value} {h : List ms_C} {Q : Option Value → List ms_C → Prop} : WP sc 25 101 [l0, some (.ref x), l2] S h Q ↔ WP sc 25 102 [l0, some (.ref x), l2] (.ref x :: S) h Q := wp_on (by decide +kernel : decode (ms_B 25) 101 = .ok (.aload_n 1, 1)) rfl (fun _ _ => rfl)
theorem s25_102 {sc : List Int32} {L : List (Option Value)} {a : Nat} {S : List Value} {h : List ms_C} {Q : Option Value → List ms_C → Prop} : WP sc 25 102 L (.ref a :: S) h Q ↔ wX (ms_get h a 4 6) (fun v => WP sc 25 105 L (v :: S) h Q) := wp_getf (by decide +kernel : decode (ms_B 25) 102 = .ok (.getfield 34, 3)) rfl
theorem s25_105 {sc : List Int32} {L : List (Option Value)} {a : Nat} {x : Int32} {S : List Value} {h : List ms_C} {Q : Option Value → List ms_C → Prop} : WP sc 25 105 L (.int x :: .ref a :: S) h Q ↔ wX (ms_is h a 4) (fun fs => 6 < fs.length ∧ WP sc 25 108 L S (h.set a (ms_obj 4 (fs.set 6 (.int x)))) Q) := wp_put (by decide +kernel : decode (ms_B 25) 105 = .ok (.putfield 34, 3)) rfl rfl (by decide) rfl rfl
theorem s25_108 {sc : List Int32} {l1 l2 : Option Value} {x : Nat} {S : List Value} {h : List ms_C} {Q : Option Value → List ms_C → Prop} : WP sc 25 108 [some (.ref x), l1, l2] S h Q ↔ WP sc 25 109 [some (.ref x), l1, l2] (.ref x :: S) h Q := wp_on (by decide +kernel : decode (ms_B 25) 108 = .ok (.aload_n 0, 1)) rfl (fun _ _ => rfl)
theorem s25_109 {sc : List Int32} {l0 l2 : Option Value} {x : Nat} {S : List Value} {h : List ms_C} {Q : Option Value → List ms_C → Prop} : WP sc 25 109 [l0, some (.ref x), l2] S h Q ↔ WP sc 25 110 [l0, some (.ref x), l2] (.ref x :: S) h Q := wp_on (by decide +kernel : decode (ms_B 25) 109 = .ok (.aload_n 1, 1)) rfl (fun _ _ => rfl)
theorem s25_110 {sc : List Int32} {L : List (Option Value)} {a : Nat} {S : List Value} {h : List ms_C} {Q : Option Value → List ms_C → Prop} : WP sc 25 110 L (.ref a :: S) h Q ↔ wX (ms_get h a 4 7) (fun v => WP sc 25 113 L (v :: S) h Q) := wp_getf (by decide +kernel : decode (ms_B 25) 110 = .ok (.getfield 37, 3)) rfl
theorem s25_113 {sc : List Int32} {L : List (Option Value)} {a : Nat} {x : Int32} {S : List Value} {h : List ms_C} {Q : Option Value → List ms_C → Prop} : WP sc 25 113 L (.int x :: .ref a :: S) h Q ↔ wX (ms_is h a 4) (fun fs => 7 < fs.length ∧ WP sc 25 116 L S (h.set a (ms_obj 4 (fs.set 7 (.int x)))) Q) := wp_put (by decide +kernel : decode (ms_B 25) 113 = .ok (.putfield 37, 3)) rfl rfl (by decide) rfl rfl
theorem s25_116 {sc : List Int32} {l1 l2 : Option Value} {x : Nat} {S : List Value} {h : List ms_C} {Q : Option Value → List ms_C → Prop} : WP sc 25 116 [some (.ref x), l1, l2] S h Q ↔ WP sc 25 117 [some (.ref x), l1, l2] (.ref x :: S) h Q := wp_on (by decide +kernel : decode (ms_B 25) 116 = .ok (.aload_n 0, 1)) rfl (fun _ _ => rfl)
theorem s25_117 {sc : List Int32} {l0 l2 : Option Value} {x : Nat} {S : List Value} {h : List ms_C} {Q : Option Value → List ms_C → Prop} : WP sc 25 117 [l0, some (.ref x), l2] S h Q ↔ WP sc 25 118 [l0, some (.ref x), l2] (.ref x :: S) h Q := wp_on (by decide +kernel : decode (ms_B 25) 117 = .ok (.aload_n 1, 1)) rfl (fun _ _ => rfl)
theorem s25_118 {sc : List Int32} {L : List (Option Value)} {a : Nat} {S : List Value} {h : List ms_C} {Q : Option Value → List ms_C → Prop} : WP sc 25 118 L (.ref a :: S) h Q ↔ wX (ms_get h a 4 8) (fun v => WP sc 25 121 L (v :: S) h Q) := wp_getf (by decide +kernel : decode (ms_B 25) 118 = .ok (.getfield 40, 3)) rfl
theorem s25_121 {sc : List Int32} {L : List (Option Value)} {a : Nat} {x : Int32} {S : List Value} {h : List ms_C} {Q : Option Value → List ms_C → Prop} : WP sc 25 121 L (.int x :: .ref a :: S) h Q ↔ wX (ms_is h a 4) (fun fs => 8 < fs.length ∧ WP sc 25 124 L S (h.set a (ms_obj 4 (fs.set 8 (.int x)))) Q) := wp_put (by decide +kernel : decode (ms_B 25) 121 = .ok (.putfield 40, 3)) rfl rfl (by decide) rfl rfl
theorem s25_124 {sc : List Int32} {l1 l2 : Option Value} {x : Nat} {S : List Value} {h : List ms_C} {Q : Option Value → List ms_C → Prop} : WP sc 25 124 [some (.ref x), l1, l2] S h Q ↔ WP sc 25 125 [some (.ref x), l1, l2] (.ref x :: S) h Q := wp_on (by decide +kernel : decode (ms_B 25) 124 = .ok (.aload_n 0, 1)) rfl (fun _ _ => rfl)
theorem s25_125 {sc : List Int32} {l0 l2 : Option Value} {x : Nat} {S : List Value} {h : List ms_C} {Q : Option Value → List ms_C → Prop} : WP sc 25 125 [l0, some (.ref x), l2] S h Q ↔ WP sc 25 126 [l0, some (.ref x), l2] (.ref x :: S) h Q := wp_on (by decide +kernel : decode (ms_B 25) 125 = .ok (.aload_n 1, 1)) rfl (fun _ _ => rfl)
theorem s25_126 {sc : List Int32} {L : List (Option Value)} {a : Nat} {S : List Value} {h : List ms_C} {Q : Option Value → List ms_C → Prop} : WP sc 25 126 L (.ref a :: S) h Q ↔ wX (ms_get h a 4 9) (fun v => WP sc 25 129 L (v :: S) h Q) := wp_getf (by decide +kernel : decode (ms_B 25) 126 = .ok (.getfield 30, 3)) rfl
theorem s25_129 {sc : List Int32} {L : List (Option Value)} {a : Nat} {x : Int32} {S : List Value} {h : List ms_C} {Q : Option Value → List ms_C → Prop} : WP sc 25 129 L (.int x :: .ref a :: S) h Q ↔ wX (ms_is h a 4) (fun fs => 9 < fs.length ∧ WP sc 25 132 L S (h.set a (ms_obj 4 (fs.set 9 (.int x)))) Q) := wp_put (by decide +kernel : decode (ms_B 25) 129 = .ok (.putfield 30, 3)) rfl rfl (by decide) rfl rfl
theorem s25_132 {sc : List Int32} {l1 l2 : Option Value} {x : Nat} {S : List Value} {h : List ms_C} {Q : Option Value → List ms_C → Prop} : WP sc 25 132 [some (.ref x), l1, l2] S h Q ↔ WP sc 25 133 [some (.ref x), l1, l2] (.ref x :: S) h Q := wp_on (by decide +kernel : decode (ms_B 25) 132 = .ok (.aload_n 0, 1)) rfl (fun _ _ => rfl)
theorem s25_133 {sc : List Int32} {l0 l2 : Option Value} {x : Nat} {S : List Value} {h : List ms_C} {Q : Option Value → List ms_C → Prop} : WP sc 25 133 [l0, some (.ref x), l2] S h Q ↔ WP sc 25 134 [l0, some (.ref x), l2] (.ref x :: S) h Q := wp_on (by decide +kernel : decode (ms_B 25) 133 = .ok (.aload_n 1, 1)) rfl (fun _ _ => rfl)
theorem s25_134 {sc : List Int32} {L : List (Option Value)} {a : Nat} {S : List Value} {h : List ms_C} {Q : Option Value → List ms_C → Prop} : WP sc 25 134 L (.ref a :: S) h Q ↔ wX (ms_get h a 4 10) (fun v => WP sc 25 137 L (v :: S) h Q) := wp_getf (by decide +kernel : decode (ms_B 25) 134 = .ok (.getfield 43, 3)) rfl
theorem s25_137 {sc : List Int32} {L : List (Option Value)} {a : Nat} {x : Int32} {S : List Value} {h : List ms_C} {Q : Option Value → List ms_C → Prop} : WP sc 25 137 L (.int x :: .ref a :: S) h Q ↔ wX (ms_is h a 4) (fun fs => 10 < fs.length ∧ WP sc 25 140 L S (h.set a (ms_obj 4 (fs.set 10 (.int x)))) Q) := wp_put (by decide +kernel : decode (ms_B 25) 137 = .ok (.putfield 43, 3)) rfl rfl (by decide) rfl rfl
theorem s25_140 {sc : List Int32} {L : List (Option Value)} {h : List ms_C} {Q : Option Value → List ms_C → Prop} : WP sc 25 140 L [] h Q ↔ Q none h := wp_ret (by decide +kernel : decode (ms_B 25) 140 = .ok (.return_, 1)) rfl
theorem s26_0 {sc : List Int32} {l0 : Option Value} {x : Int32} {S : List Value} {h : List ms_C} {Q : Option Value → List ms_C → Prop} : WP sc 26 0 [l0, some (.int x)] S h Q ↔ WP sc 26 1 [l0, some (.int x)] (.int x :: S) h Q := wp_on (by decide +kernel : decode (ms_B 26) 0 = .ok (.iload_n 1, 1)) rfl (fun _ _ => rfl)
theorem s26_1 {sc : List Int32} {L : List (Option Value)} {a : Int32} {S : List Value} {h : List ms_C} {Q : Option Value → List ms_C → Prop} : WP sc 26 1 L (.int a :: S) h Q ↔ (if a < 0 then WP sc 26 16 L S h Q else WP sc 26 4 L S h Q) := wp_ifC (by decide +kernel : decode (ms_B 26) 1 = .ok (.ifCond .lt 15, 3)) rfl Iff.rfl
theorem s26_4 {sc : List Int32} {l0 : Option Value} {x : Int32} {S : List Value} {h : List ms_C} {Q : Option Value → List ms_C → Prop} : WP sc 26 4 [l0, some (.int x)] S h Q ↔ WP sc 26 5 [l0, some (.int x)] (.int x :: S) h Q := wp_on (by decide +kernel : decode (ms_B 26) 4 = .ok (.iload_n 1, 1)) rfl (fun _ _ => rfl)
theorem s26_5 {sc : List Int32} {l1 : Option Value} {x : Nat} {S : List Value} {h : List ms_C} {Q : Option Value → List ms_C → Prop} : WP sc 26 5 [some (.ref x), l1] S h Q ↔ WP sc 26 6 [some (.ref x), l1] (.ref x :: S) h Q := wp_on (by decide +kernel : decode (ms_B 26) 5 = .ok (.aload_n 0, 1)) rfl (fun _ _ => rfl)
theorem s26_6 {sc : List Int32} {L : List (Option Value)} {a : Nat} {S : List Value} {h : List ms_C} {Q : Option Value → List ms_C → Prop} : WP sc 26 6 L (.ref a :: S) h Q ↔ wX (ms_get h a 4 6) (fun v => WP sc 26 9 L (v :: S) h Q) := wp_getf (by decide +kernel : decode (ms_B 26) 6 = .ok (.getfield 34, 3)) rfl
theorem s26_9 {sc : List Int32} {L : List (Option Value)} {a b : Int32} {S : List Value} {h : List ms_C} {Q : Option Value → List ms_C → Prop} : WP sc 26 9 L (.int b :: .int a :: S) h Q ↔ (if b ≤ a then WP sc 26 16 L S h Q else WP sc 26 12 L S h Q) := wp_ifI (by decide +kernel : decode (ms_B 26) 9 = .ok (.if_icmp .ge 7, 3)) rfl Iff.rfl
theorem s26_12 {sc : List Int32} {L : List (Option Value)} {S : List Value} {h : List ms_C} {Q : Option Value → List ms_C → Prop} : WP sc 26 12 L S h Q ↔ WP sc 26 13 L (.int (nI 1) :: S) h Q := wp_on (by decide +kernel : decode (ms_B 26) 12 = .ok (.iconst 1, 1)) rfl (fun _ _ => rfl)
theorem s26_13 {sc : List Int32} {L : List (Option Value)} {S : List Value} {h : List ms_C} {Q : Option Value → List ms_C → Prop} : WP sc 26 13 L S h Q ↔ WP sc 26 17 L S h Q := wp_goto (by decide +kernel : decode (ms_B 26) 13 = .ok (.goto 4, 3)) rfl
theorem s26_16 {sc : List Int32} {L : List (Option Value)} {S : List Value} {h : List ms_C} {Q : Option Value → List ms_C → Prop} : WP sc 26 16 L S h Q ↔ WP sc 26 17 L (.int (nI 0) :: S) h Q := wp_on (by decide +kernel : decode (ms_B 26) 16 = .ok (.iconst 0, 1)) rfl (fun _ _ => rfl)
theorem s26_17 {sc : List Int32} {L : List (Option Value)} {x : Int32} {h : List ms_C} {Q : Option Value → List ms_C → Prop} : WP sc 26 17 L [.int x] h Q ↔ (x = 0 ∨ x = 1) ∧ Q (some (.int x)) h := wp_zret (by decide +kernel : decode (ms_B 26) 17 = .ok (.ireturn, 1)) rfl
theorem s27_0 {sc : List Int32} {l1 l2 : Option Value} {x : Nat} {S : List Value} {h : List ms_C} {Q : Option Value → List ms_C → Prop} : WP sc 27 0 [some (.ref x), l1, l2] S h Q ↔ WP sc 27 1 [some (.ref x), l1, l2] (.ref x :: S) h Q := wp_on (by decide +kernel : decode (ms_B 27) 0 = .ok (.aload_n 0, 1)) rfl (fun _ _ => rfl)
theorem s27_1 {sc : List Int32} {L : List (Option Value)} {a : Nat} {S : List Value} {h : List ms_C} {Q : Option Value → List ms_C → Prop} : WP sc 27 1 L (.ref a :: S) h Q ↔ wX (ms_get h a 4 1) (fun v => WP sc 27 4 L (v :: S) h Q) := wp_getf (by decide +kernel : decode (ms_B 27) 1 = .ok (.getfield 15, 3)) rfl
theorem s27_4 {sc : List Int32} {l0 l2 : Option Value} {x : Int32} {S : List Value} {h : List ms_C} {Q : Option Value → List ms_C → Prop} : WP sc 27 4 [l0, some (.int x), l2] S h Q ↔ WP sc 27 5 [l0, some (.int x), l2] (.int x :: S) h Q := wp_on (by decide +kernel : decode (ms_B 27) 4 = .ok (.iload_n 1, 1)) rfl (fun _ _ => rfl)
theorem s27_5 {sc : List Int32} {L : List (Option Value)} {a : Nat} {i : Int32} {S : List Value} {h : List ms_C} {Q : Option Value → List ms_C → Prop} : WP sc 27 5 L (.int i :: .ref a :: S) h Q ↔ wX (ms_arr h a) (fun l => wX (ms_iat i l.length) (fun j => WP sc 27 6 L (.int (l.getD j 0) :: S) h Q)) := wp_iald (by decide +kernel : decode (ms_B 27) 5 = .ok (.iaload, 1))
theorem s27_6 {sc : List Int32} {l0 l1 l2 : Option Value} {x : Int32} {S : List Value} {h : List ms_C} {Q : Option Value → List ms_C → Prop} (hn : wn_ok l1 = true) : WP sc 27 6 [l0, l1, l2] (.int x :: S) h Q ↔ WP sc 27 7 [l0, l1, some (.int x)] S h Q := wp_set (by decide +kernel : decode (ms_B 27) 6 = .ok (.istore_n 2, 1)) rfl (fun _ _ => rfl) (ms_set_ok (A := [l0]) hn)
theorem s27_7 {sc : List Int32} {l1 l2 : Option Value} {x : Nat} {S : List Value} {h : List ms_C} {Q : Option Value → List ms_C → Prop} : WP sc 27 7 [some (.ref x), l1, l2] S h Q ↔ WP sc 27 8 [some (.ref x), l1, l2] (.ref x :: S) h Q := wp_on (by decide +kernel : decode (ms_B 27) 7 = .ok (.aload_n 0, 1)) rfl (fun _ _ => rfl)
theorem s27_8 {sc : List Int32} {L : List (Option Value)} {a : Nat} {S : List Value} {h : List ms_C} {Q : Option Value → List ms_C → Prop} : WP sc 27 8 L (.ref a :: S) h Q ↔ wX (ms_get h a 4 0) (fun v => WP sc 27 11 L (v :: S) h Q) := wp_getf (by decide +kernel : decode (ms_B 27) 8 = .ok (.getfield 9, 3)) rfl
theorem s27_11 {sc : List Int32} {l0 l2 : Option Value} {x : Int32} {S : List Value} {h : List ms_C} {Q : Option Value → List ms_C → Prop} : WP sc 27 11 [l0, some (.int x), l2] S h Q ↔ WP sc 27 12 [l0, some (.int x), l2] (.int x :: S) h Q := wp_on (by decide +kernel : decode (ms_B 27) 11 = .ok (.iload_n 1, 1)) rfl (fun _ _ => rfl)
theorem s27_12 {sc : List Int32} {L : List (Option Value)} {a : Nat} {i : Int32} {S : List Value} {h : List ms_C} {Q : Option Value → List ms_C → Prop} : WP sc 27 12 L (.int i :: .ref a :: S) h Q ↔ wX (ms_arr h a) (fun l => wX (ms_iat i l.length) (fun j => WP sc 27 13 L (.int (l.getD j 0) :: S) h Q)) := wp_iald (by decide +kernel : decode (ms_B 27) 12 = .ok (.iaload, 1))
theorem s27_13 {sc : List Int32} {L : List (Option Value)} {a : Int32} {S : List Value} {h : List ms_C} {Q : Option Value → List ms_C → Prop} : WP sc 27 13 L (.int a :: S) h Q ↔ (if a = nI 1 then WP sc 27 40 L S h Q else (if a = nI 2 then WP sc 27 46 L S h Q else (if a = nI 3 then WP sc 27 57 L S h Q else WP sc 27 64 L S h Q))) := by
  by_cases n1 : a = nI 1
  · rw [if_pos n1]; subst n1; exact wp_tabT (by decide +kernel : decode (ms_B 27) 13 = .ok (.tableswitch 51 1 3 #[27, 33, 44], 27)) (by decide) rfl rfl
  rw [if_neg n1]
  by_cases n2 : a = nI 2
  · rw [if_pos n2]; subst n2; exact wp_tabT (by decide +kernel : decode (ms_B 27) 13 = .ok (.tableswitch 51 1 3 #[27, 33, 44], 27)) (by decide) rfl rfl
  rw [if_neg n2]
  by_cases n3 : a = nI 3
  · rw [if_pos n3]; subst n3; exact wp_tabT (by decide +kernel : decode (ms_B 27) 13 = .ok (.tableswitch 51 1 3 #[27, 33, 44], 27)) (by decide) rfl rfl
  rw [if_neg n3]
  exact wp_tabD (by decide +kernel : decode (ms_B 27) 13 = .ok (.tableswitch 51 1 3 #[27, 33, 44], 27)) (ms_tout (fun k h1 h2 => by
    rcases (by omega : k = 1 ∨ k = 2 ∨ k = 3) with rfl | rfl | rfl
    · exact ms_eqI n1 rfl
    · exact ms_eqI n2 rfl
    · exact ms_eqI n3 rfl)) rfl
theorem s27_40 {sc : List Int32} {l0 l1 : Option Value} {x : Int32} {S : List Value} {h : List ms_C} {Q : Option Value → List ms_C → Prop} (hn : wn_ok l1 = true) : WP sc 27 40 [l0, l1, some (.int x)] S h Q ↔ WP sc 27 43 [l0, l1, some (.int (x + (nI 5)))] S h Q := wp_set (by decide +kernel : decode (ms_B 27) 40 = .ok (.iinc 2 5, 3)) rfl (fun _ _ => rfl) (ms_set_ok (A := [l0]) hn)
theorem s27_43 {sc : List Int32} {L : List (Option Value)} {S : List Value} {h : List ms_C} {Q : Option Value → List ms_C → Prop} : WP sc 27 43 L S h Q ↔ WP sc 27 64 L S h Q := wp_goto (by decide +kernel : decode (ms_B 27) 43 = .ok (.goto 21, 3)) rfl
theorem s27_46 {sc : List Int32} {l0 l1 : Option Value} {x : Int32} {S : List Value} {h : List ms_C} {Q : Option Value → List ms_C → Prop} : WP sc 27 46 [l0, l1, some (.int x)] S h Q ↔ WP sc 27 47 [l0, l1, some (.int x)] (.int x :: S) h Q := wp_on (by decide +kernel : decode (ms_B 27) 46 = .ok (.iload_n 2, 1)) rfl (fun _ _ => rfl)
theorem s27_47 {sc : List Int32} {L : List (Option Value)} {S : List Value} {h : List ms_C} {Q : Option Value → List ms_C → Prop} : WP sc 27 47 L S h Q ↔ WP sc 27 48 L (.int (nI 5) :: S) h Q := wp_on (by decide +kernel : decode (ms_B 27) 47 = .ok (.iconst 5, 1)) rfl (fun _ _ => rfl)
theorem s27_48 {sc : List Int32} {L : List (Option Value)} {a b : Int32} {S : List Value} {h : List ms_C} {Q : Option Value → List ms_C → Prop} : WP sc 27 48 L (.int b :: .int a :: S) h Q ↔ WP sc 27 49 L (.int (a - b) :: S) h Q := wp_on (by decide +kernel : decode (ms_B 27) 48 = .ok (.isub, 1)) rfl (fun _ _ => rfl)
theorem s27_49 {sc : List Int32} {L : List (Option Value)} {S : List Value} {h : List ms_C} {Q : Option Value → List ms_C → Prop} : WP sc 27 49 L S h Q ↔ WP sc 27 50 L (.int (nI 0) :: S) h Q := wp_on (by decide +kernel : decode (ms_B 27) 49 = .ok (.iconst 0, 1)) rfl (fun _ _ => rfl)
theorem s27_50 {sc : List Int32} {L : List (Option Value)} {a b : Int32} {S : List Value} {h : List ms_C} {Q : Option Value → List ms_C → Prop} (hS : (S.map fun v => v.category).sum ≤ 8) : WP sc 27 50 L (.int b :: .int a :: S) h Q ↔ WP sc 27 53 L (.int (if a < b then b else a) :: S) h Q := wp_max (by decide +kernel : decode (ms_B 27) 50 = .ok (.invokestatic 58, 3)) rfl (by decide) (by have h9 : ms_W 27 = 21 := rfl; omega)
theorem s27_53 {sc : List Int32} {l0 l1 l2 : Option Value} {x : Int32} {S : List Value} {h : List ms_C} {Q : Option Value → List ms_C → Prop} (hn : wn_ok l1 = true) : WP sc 27 53 [l0, l1, l2] (.int x :: S) h Q ↔ WP sc 27 54 [l0, l1, some (.int x)] S h Q := wp_set (by decide +kernel : decode (ms_B 27) 53 = .ok (.istore_n 2, 1)) rfl (fun _ _ => rfl) (ms_set_ok (A := [l0]) hn)
theorem s27_54 {sc : List Int32} {L : List (Option Value)} {S : List Value} {h : List ms_C} {Q : Option Value → List ms_C → Prop} : WP sc 27 54 L S h Q ↔ WP sc 27 64 L S h Q := wp_goto (by decide +kernel : decode (ms_B 27) 54 = .ok (.goto 10, 3)) rfl
theorem s27_57 {sc : List Int32} {l0 l1 : Option Value} {x : Int32} {S : List Value} {h : List ms_C} {Q : Option Value → List ms_C → Prop} : WP sc 27 57 [l0, l1, some (.int x)] S h Q ↔ WP sc 27 58 [l0, l1, some (.int x)] (.int x :: S) h Q := wp_on (by decide +kernel : decode (ms_B 27) 57 = .ok (.iload_n 2, 1)) rfl (fun _ _ => rfl)
theorem s27_58 {sc : List Int32} {L : List (Option Value)} {S : List Value} {h : List ms_C} {Q : Option Value → List ms_C → Prop} : WP sc 27 58 L S h Q ↔ WP sc 27 59 L (.int (nI 2) :: S) h Q := wp_on (by decide +kernel : decode (ms_B 27) 58 = .ok (.iconst 2, 1)) rfl (fun _ _ => rfl)
theorem s27_59 {sc : List Int32} {L : List (Option Value)} {a b : Int32} {S : List Value} {h : List ms_C} {Q : Option Value → List ms_C → Prop} (hb : ¬ b = 0) : WP sc 27 59 L (.int b :: .int a :: S) h Q ↔ WP sc 27 60 L (.int (a / b) :: S) h Q := wp_div (by decide +kernel : decode (ms_B 27) 59 = .ok (.idiv, 1)) hb
theorem s27_60 {sc : List Int32} {l0 l1 l2 : Option Value} {x : Int32} {S : List Value} {h : List ms_C} {Q : Option Value → List ms_C → Prop} (hn : wn_ok l1 = true) : WP sc 27 60 [l0, l1, l2] (.int x :: S) h Q ↔ WP sc 27 61 [l0, l1, some (.int x)] S h Q := wp_set (by decide +kernel : decode (ms_B 27) 60 = .ok (.istore_n 2, 1)) rfl (fun _ _ => rfl) (ms_set_ok (A := [l0]) hn)
theorem s27_61 {sc : List Int32} {L : List (Option Value)} {S : List Value} {h : List ms_C} {Q : Option Value → List ms_C → Prop} : WP sc 27 61 L S h Q ↔ WP sc 27 64 L S h Q := wp_goto (by decide +kernel : decode (ms_B 27) 61 = .ok (.goto 3, 3)) rfl
theorem s27_64 {sc : List Int32} {l0 l1 : Option Value} {x : Int32} {S : List Value} {h : List ms_C} {Q : Option Value → List ms_C → Prop} : WP sc 27 64 [l0, l1, some (.int x)] S h Q ↔ WP sc 27 65 [l0, l1, some (.int x)] (.int x :: S) h Q := wp_on (by decide +kernel : decode (ms_B 27) 64 = .ok (.iload_n 2, 1)) rfl (fun _ _ => rfl)
theorem s27_65 {sc : List Int32} {l1 l2 : Option Value} {x : Nat} {S : List Value} {h : List ms_C} {Q : Option Value → List ms_C → Prop} : WP sc 27 65 [some (.ref x), l1, l2] S h Q ↔ WP sc 27 66 [some (.ref x), l1, l2] (.ref x :: S) h Q := wp_on (by decide +kernel : decode (ms_B 27) 65 = .ok (.aload_n 0, 1)) rfl (fun _ _ => rfl)
theorem s27_66 {sc : List Int32} {L : List (Option Value)} {a : Nat} {S : List Value} {h : List ms_C} {Q : Option Value → List ms_C → Prop} : WP sc 27 66 L (.ref a :: S) h Q ↔ wX (ms_get h a 4 3) (fun v => WP sc 27 69 L (v :: S) h Q) := wp_getf (by decide +kernel : decode (ms_B 27) 66 = .ok (.getfield 21, 3)) rfl
theorem s27_69 {sc : List Int32} {l0 l2 : Option Value} {x : Int32} {S : List Value} {h : List ms_C} {Q : Option Value → List ms_C → Prop} : WP sc 27 69 [l0, some (.int x), l2] S h Q ↔ WP sc 27 70 [l0, some (.int x), l2] (.int x :: S) h Q := wp_on (by decide +kernel : decode (ms_B 27) 69 = .ok (.iload_n 1, 1)) rfl (fun _ _ => rfl)
theorem s27_70 {sc : List Int32} {L : List (Option Value)} {a : Nat} {i : Int32} {S : List Value} {h : List ms_C} {Q : Option Value → List ms_C → Prop} : WP sc 27 70 L (.int i :: .ref a :: S) h Q ↔ wX (ms_arr h a) (fun l => wX (ms_iat i l.length) (fun j => WP sc 27 71 L (.int (l.getD j 0) :: S) h Q)) := wp_iald (by decide +kernel : decode (ms_B 27) 70 = .ok (.iaload, 1))
theorem s27_71 {sc : List Int32} {L : List (Option Value)} {a b : Int32} {S : List Value} {h : List ms_C} {Q : Option Value → List ms_C → Prop} : WP sc 27 71 L (.int b :: .int a :: S) h Q ↔ WP sc 27 72 L (.int (a - b) :: S) h Q := wp_on (by decide +kernel : decode (ms_B 27) 71 = .ok (.isub, 1)) rfl (fun _ _ => rfl)
theorem s27_72 {sc : List Int32} {L : List (Option Value)} {S : List Value} {h : List ms_C} {Q : Option Value → List ms_C → Prop} : WP sc 27 72 L S h Q ↔ WP sc 27 73 L (.int (nI 0) :: S) h Q := wp_on (by decide +kernel : decode (ms_B 27) 72 = .ok (.iconst 0, 1)) rfl (fun _ _ => rfl)
theorem s27_73 {sc : List Int32} {L : List (Option Value)} {a b : Int32} {S : List Value} {h : List ms_C} {Q : Option Value → List ms_C → Prop} (hS : (S.map fun v => v.category).sum ≤ 8) : WP sc 27 73 L (.int b :: .int a :: S) h Q ↔ WP sc 27 76 L (.int (if a < b then b else a) :: S) h Q := wp_max (by decide +kernel : decode (ms_B 27) 73 = .ok (.invokestatic 58, 3)) rfl (by decide) (by have h9 : ms_W 27 = 21 := rfl; omega)
theorem s27_76 {sc : List Int32} {L : List (Option Value)} {x : Int32} {h : List ms_C} {Q : Option Value → List ms_C → Prop} : WP sc 27 76 L [.int x] h Q ↔ Q (some (.int x)) h := wp_iret (by decide +kernel : decode (ms_B 27) 76 = .ok (.ireturn, 1)) rfl
theorem s28_0 {sc : List Int32} {l0 : Option Value} {x : Int32} {S : List Value} {h : List ms_C} {Q : Option Value → List ms_C → Prop} : WP sc 28 0 [l0, some (.int x)] S h Q ↔ WP sc 28 1 [l0, some (.int x)] (.int x :: S) h Q := wp_on (by decide +kernel : decode (ms_B 28) 0 = .ok (.iload_n 1, 1)) rfl (fun _ _ => rfl)
theorem s28_1 {sc : List Int32} {L : List (Option Value)} {a : Int32} {S : List Value} {h : List ms_C} {Q : Option Value → List ms_C → Prop} : WP sc 28 1 L (.int a :: S) h Q ↔ (if a < 0 then WP sc 28 16 L S h Q else WP sc 28 4 L S h Q) := wp_ifC (by decide +kernel : decode (ms_B 28) 1 = .ok (.ifCond .lt 15, 3)) rfl Iff.rfl
theorem s28_4 {sc : List Int32} {l0 : Option Value} {x : Int32} {S : List Value} {h : List ms_C} {Q : Option Value → List ms_C → Prop} : WP sc 28 4 [l0, some (.int x)] S h Q ↔ WP sc 28 5 [l0, some (.int x)] (.int x :: S) h Q := wp_on (by decide +kernel : decode (ms_B 28) 4 = .ok (.iload_n 1, 1)) rfl (fun _ _ => rfl)
theorem s28_5 {sc : List Int32} {l1 : Option Value} {x : Nat} {S : List Value} {h : List ms_C} {Q : Option Value → List ms_C → Prop} : WP sc 28 5 [some (.ref x), l1] S h Q ↔ WP sc 28 6 [some (.ref x), l1] (.ref x :: S) h Q := wp_on (by decide +kernel : decode (ms_B 28) 5 = .ok (.aload_n 0, 1)) rfl (fun _ _ => rfl)
theorem s28_6 {sc : List Int32} {L : List (Option Value)} {a : Nat} {S : List Value} {h : List ms_C} {Q : Option Value → List ms_C → Prop} : WP sc 28 6 L (.ref a :: S) h Q ↔ wX (ms_get h a 4 7) (fun v => WP sc 28 9 L (v :: S) h Q) := wp_getf (by decide +kernel : decode (ms_B 28) 6 = .ok (.getfield 37, 3)) rfl
theorem s28_9 {sc : List Int32} {L : List (Option Value)} {a b : Int32} {S : List Value} {h : List ms_C} {Q : Option Value → List ms_C → Prop} : WP sc 28 9 L (.int b :: .int a :: S) h Q ↔ (if b ≤ a then WP sc 28 16 L S h Q else WP sc 28 12 L S h Q) := wp_ifI (by decide +kernel : decode (ms_B 28) 9 = .ok (.if_icmp .ge 7, 3)) rfl Iff.rfl
theorem s28_12 {sc : List Int32} {L : List (Option Value)} {S : List Value} {h : List ms_C} {Q : Option Value → List ms_C → Prop} : WP sc 28 12 L S h Q ↔ WP sc 28 13 L (.int (nI 1) :: S) h Q := wp_on (by decide +kernel : decode (ms_B 28) 12 = .ok (.iconst 1, 1)) rfl (fun _ _ => rfl)
theorem s28_13 {sc : List Int32} {L : List (Option Value)} {S : List Value} {h : List ms_C} {Q : Option Value → List ms_C → Prop} : WP sc 28 13 L S h Q ↔ WP sc 28 17 L S h Q := wp_goto (by decide +kernel : decode (ms_B 28) 13 = .ok (.goto 4, 3)) rfl
theorem s28_16 {sc : List Int32} {L : List (Option Value)} {S : List Value} {h : List ms_C} {Q : Option Value → List ms_C → Prop} : WP sc 28 16 L S h Q ↔ WP sc 28 17 L (.int (nI 0) :: S) h Q := wp_on (by decide +kernel : decode (ms_B 28) 16 = .ok (.iconst 0, 1)) rfl (fun _ _ => rfl)
theorem s28_17 {sc : List Int32} {L : List (Option Value)} {x : Int32} {h : List ms_C} {Q : Option Value → List ms_C → Prop} : WP sc 28 17 L [.int x] h Q ↔ (x = 0 ∨ x = 1) ∧ Q (some (.int x)) h := wp_zret (by decide +kernel : decode (ms_B 28) 17 = .ok (.ireturn, 1)) rfl
theorem s29_0 {sc : List Int32} {L : List (Option Value)} {S : List Value} {h : List ms_C} {Q : Option Value → List ms_C → Prop} : WP sc 29 0 L S h Q ↔ WP sc 29 1 L (.int (nI 0) :: S) h Q := wp_on (by decide +kernel : decode (ms_B 29) 0 = .ok (.iconst 0, 1)) rfl (fun _ _ => rfl)
theorem s29_1 {sc : List Int32} {l0 l1 l2 : Option Value} {x : Int32} {S : List Value} {h : List ms_C} {Q : Option Value → List ms_C → Prop} (hn : wn_ok l1 = true) : WP sc 29 1 [l0, l1, l2] (.int x :: S) h Q ↔ WP sc 29 2 [l0, l1, some (.int x)] S h Q := wp_set (by decide +kernel : decode (ms_B 29) 1 = .ok (.istore_n 2, 1)) rfl (fun _ _ => rfl) (ms_set_ok (A := [l0]) hn)
theorem s29_2 {sc : List Int32} {l0 l1 : Option Value} {x : Int32} {S : List Value} {h : List ms_C} {Q : Option Value → List ms_C → Prop} : WP sc 29 2 [l0, l1, some (.int x)] S h Q ↔ WP sc 29 3 [l0, l1, some (.int x)] (.int x :: S) h Q := wp_on (by decide +kernel : decode (ms_B 29) 2 = .ok (.iload_n 2, 1)) rfl (fun _ _ => rfl)
theorem s29_3 {sc : List Int32} {l0 l2 : Option Value} {x : Int32} {S : List Value} {h : List ms_C} {Q : Option Value → List ms_C → Prop} : WP sc 29 3 [l0, some (.int x), l2] S h Q ↔ WP sc 29 4 [l0, some (.int x), l2] (.int x :: S) h Q := wp_on (by decide +kernel : decode (ms_B 29) 3 = .ok (.iload_n 1, 1)) rfl (fun _ _ => rfl)
theorem s29_4 {sc : List Int32} {L : List (Option Value)} {a b : Int32} {S : List Value} {h : List ms_C} {Q : Option Value → List ms_C → Prop} : WP sc 29 4 L (.int b :: .int a :: S) h Q ↔ (if b ≤ a then WP sc 29 18 L S h Q else WP sc 29 7 L S h Q) := wp_ifI (by decide +kernel : decode (ms_B 29) 4 = .ok (.if_icmp .ge 14, 3)) rfl Iff.rfl
theorem s29_7 {sc : List Int32} {l1 l2 : Option Value} {x : Nat} {S : List Value} {h : List ms_C} {Q : Option Value → List ms_C → Prop} : WP sc 29 7 [some (.ref x), l1, l2] S h Q ↔ WP sc 29 8 [some (.ref x), l1, l2] (.ref x :: S) h Q := wp_on (by decide +kernel : decode (ms_B 29) 7 = .ok (.aload_n 0, 1)) rfl (fun _ _ => rfl)
theorem s29_8 {sc : List Int32} {L : List (Option Value)} {S : List Value} {h : List ms_C} {Q : Option Value → List ms_C → Prop} : WP sc 29 8 L S h Q ↔ WP sc 29 9 L (.int (nI 0) :: S) h Q := wp_on (by decide +kernel : decode (ms_B 29) 8 = .ok (.iconst 0, 1)) rfl (fun _ _ => rfl)
theorem s29_9 {sc : List Int32} {L : List (Option Value)} {a : Nat} {x0 : Int32} {S : List Value} {h : List ms_C} {Q : Option Value → List ms_C → Prop} (hI : (ms_is h a 4).isSome = true) (hS : (S.map fun v => v.category).sum ≤ 8) : WP sc 29 9 L (.int x0 :: .ref a :: S) h Q ↔ WP sc 30 0 [some (.ref a), some (.int x0), none] [] h (fun r h1 => WP sc 29 12 L (r.toList ++ S) h1 Q) := wp_virt' (vs := [.ref a, .int x0]) hI (by decide +kernel : decode (ms_B 29) 9 = .ok (.invokevirtual 64, 3)) rfl rfl rfl rfl (by decide) (by decide) hS (by simp [ms_args, ms_L, ms_Ll]) rfl
theorem s29_12 {sc : List Int32} {l0 l1 : Option Value} {x : Int32} {S : List Value} {h : List ms_C} {Q : Option Value → List ms_C → Prop} (hn : wn_ok l1 = true) : WP sc 29 12 [l0, l1, some (.int x)] S h Q ↔ WP sc 29 15 [l0, l1, some (.int (x + (nI 1)))] S h Q := wp_set (by decide +kernel : decode (ms_B 29) 12 = .ok (.iinc 2 1, 3)) rfl (fun _ _ => rfl) (ms_set_ok (A := [l0]) hn)
theorem s29_15 {sc : List Int32} {L : List (Option Value)} {S : List Value} {h : List ms_C} {Q : Option Value → List ms_C → Prop} : WP sc 29 15 L S h Q ↔ WP sc 29 2 L S h Q := wp_goto (by decide +kernel : decode (ms_B 29) 15 = .ok (.goto (-13), 3)) rfl
theorem s29_18 {sc : List Int32} {L : List (Option Value)} {h : List ms_C} {Q : Option Value → List ms_C → Prop} : WP sc 29 18 L [] h Q ↔ Q none h := wp_ret (by decide +kernel : decode (ms_B 29) 18 = .ok (.return_, 1)) rfl
theorem s30_0 {sc : List Int32} {L : List (Option Value)} {S : List Value} {h : List ms_C} {Q : Option Value → List ms_C → Prop} : WP sc 30 0 L S h Q ↔ WP sc 30 1 L (.int (nI 0) :: S) h Q := wp_on (by decide +kernel : decode (ms_B 30) 0 = .ok (.iconst 0, 1)) rfl (fun _ _ => rfl)
theorem s30_1 {sc : List Int32} {l0 l1 l2 : Option Value} {x : Int32} {S : List Value} {h : List ms_C} {Q : Option Value → List ms_C → Prop} (hn : wn_ok l1 = true) : WP sc 30 1 [l0, l1, l2] (.int x :: S) h Q ↔ WP sc 30 2 [l0, l1, some (.int x)] S h Q := wp_set (by decide +kernel : decode (ms_B 30) 1 = .ok (.istore_n 2, 1)) rfl (fun _ _ => rfl) (ms_set_ok (A := [l0]) hn)
theorem s30_2 {sc : List Int32} {l0 l1 : Option Value} {x : Int32} {S : List Value} {h : List ms_C} {Q : Option Value → List ms_C → Prop} : WP sc 30 2 [l0, l1, some (.int x)] S h Q ↔ WP sc 30 3 [l0, l1, some (.int x)] (.int x :: S) h Q := wp_on (by decide +kernel : decode (ms_B 30) 2 = .ok (.iload_n 2, 1)) rfl (fun _ _ => rfl)
theorem s30_3 {sc : List Int32} {l1 l2 : Option Value} {x : Nat} {S : List Value} {h : List ms_C} {Q : Option Value → List ms_C → Prop} : WP sc 30 3 [some (.ref x), l1, l2] S h Q ↔ WP sc 30 4 [some (.ref x), l1, l2] (.ref x :: S) h Q := wp_on (by decide +kernel : decode (ms_B 30) 3 = .ok (.aload_n 0, 1)) rfl (fun _ _ => rfl)
theorem s30_4 {sc : List Int32} {L : List (Option Value)} {a : Nat} {S : List Value} {h : List ms_C} {Q : Option Value → List ms_C → Prop} : WP sc 30 4 L (.ref a :: S) h Q ↔ wX (ms_get h a 4 6) (fun v => WP sc 30 7 L (v :: S) h Q) := wp_getf (by decide +kernel : decode (ms_B 30) 4 = .ok (.getfield 34, 3)) rfl
theorem s30_7 {sc : List Int32} {L : List (Option Value)} {a b : Int32} {S : List Value} {h : List ms_C} {Q : Option Value → List ms_C → Prop} : WP sc 30 7 L (.int b :: .int a :: S) h Q ↔ (if b ≤ a then WP sc 30 39 L S h Q else WP sc 30 10 L S h Q) := wp_ifI (by decide +kernel : decode (ms_B 30) 7 = .ok (.if_icmp .ge 32, 3)) rfl Iff.rfl
theorem s30_10 {sc : List Int32} {l1 l2 : Option Value} {x : Nat} {S : List Value} {h : List ms_C} {Q : Option Value → List ms_C → Prop} : WP sc 30 10 [some (.ref x), l1, l2] S h Q ↔ WP sc 30 11 [some (.ref x), l1, l2] (.ref x :: S) h Q := wp_on (by decide +kernel : decode (ms_B 30) 10 = .ok (.aload_n 0, 1)) rfl (fun _ _ => rfl)
theorem s30_11 {sc : List Int32} {L : List (Option Value)} {a : Nat} {S : List Value} {h : List ms_C} {Q : Option Value → List ms_C → Prop} : WP sc 30 11 L (.ref a :: S) h Q ↔ wX (ms_get h a 4 1) (fun v => WP sc 30 14 L (v :: S) h Q) := wp_getf (by decide +kernel : decode (ms_B 30) 11 = .ok (.getfield 15, 3)) rfl
theorem s30_14 {sc : List Int32} {l0 l1 : Option Value} {x : Int32} {S : List Value} {h : List ms_C} {Q : Option Value → List ms_C → Prop} : WP sc 30 14 [l0, l1, some (.int x)] S h Q ↔ WP sc 30 15 [l0, l1, some (.int x)] (.int x :: S) h Q := wp_on (by decide +kernel : decode (ms_B 30) 14 = .ok (.iload_n 2, 1)) rfl (fun _ _ => rfl)
theorem s30_15 {sc : List Int32} {l1 l2 : Option Value} {x : Nat} {S : List Value} {h : List ms_C} {Q : Option Value → List ms_C → Prop} : WP sc 30 15 [some (.ref x), l1, l2] S h Q ↔ WP sc 30 16 [some (.ref x), l1, l2] (.ref x :: S) h Q := wp_on (by decide +kernel : decode (ms_B 30) 15 = .ok (.aload_n 0, 1)) rfl (fun _ _ => rfl)
theorem s30_16 {sc : List Int32} {L : List (Option Value)} {a : Nat} {S : List Value} {h : List ms_C} {Q : Option Value → List ms_C → Prop} : WP sc 30 16 L (.ref a :: S) h Q ↔ wX (ms_get h a 4 1) (fun v => WP sc 30 19 L (v :: S) h Q) := wp_getf (by decide +kernel : decode (ms_B 30) 16 = .ok (.getfield 15, 3)) rfl
theorem s30_19 {sc : List Int32} {l0 l1 : Option Value} {x : Int32} {S : List Value} {h : List ms_C} {Q : Option Value → List ms_C → Prop} : WP sc 30 19 [l0, l1, some (.int x)] S h Q ↔ WP sc 30 20 [l0, l1, some (.int x)] (.int x :: S) h Q := wp_on (by decide +kernel : decode (ms_B 30) 19 = .ok (.iload_n 2, 1)) rfl (fun _ _ => rfl)
theorem s30_20 {sc : List Int32} {L : List (Option Value)} {a : Nat} {i : Int32} {S : List Value} {h : List ms_C} {Q : Option Value → List ms_C → Prop} : WP sc 30 20 L (.int i :: .ref a :: S) h Q ↔ wX (ms_arr h a) (fun l => wX (ms_iat i l.length) (fun j => WP sc 30 21 L (.int (l.getD j 0) :: S) h Q)) := wp_iald (by decide +kernel : decode (ms_B 30) 20 = .ok (.iaload, 1))
theorem s30_21 {sc : List Int32} {l1 l2 : Option Value} {x : Nat} {S : List Value} {h : List ms_C} {Q : Option Value → List ms_C → Prop} : WP sc 30 21 [some (.ref x), l1, l2] S h Q ↔ WP sc 30 22 [some (.ref x), l1, l2] (.ref x :: S) h Q := wp_on (by decide +kernel : decode (ms_B 30) 21 = .ok (.aload_n 0, 1)) rfl (fun _ _ => rfl)
theorem s30_22 {sc : List Int32} {L : List (Option Value)} {a : Nat} {S : List Value} {h : List ms_C} {Q : Option Value → List ms_C → Prop} : WP sc 30 22 L (.ref a :: S) h Q ↔ wX (ms_get h a 4 2) (fun v => WP sc 30 25 L (v :: S) h Q) := wp_getf (by decide +kernel : decode (ms_B 30) 22 = .ok (.getfield 18, 3)) rfl
theorem s30_25 {sc : List Int32} {l0 l1 : Option Value} {x : Int32} {S : List Value} {h : List ms_C} {Q : Option Value → List ms_C → Prop} : WP sc 30 25 [l0, l1, some (.int x)] S h Q ↔ WP sc 30 26 [l0, l1, some (.int x)] (.int x :: S) h Q := wp_on (by decide +kernel : decode (ms_B 30) 25 = .ok (.iload_n 2, 1)) rfl (fun _ _ => rfl)
theorem s30_26 {sc : List Int32} {L : List (Option Value)} {a : Nat} {i : Int32} {S : List Value} {h : List ms_C} {Q : Option Value → List ms_C → Prop} : WP sc 30 26 L (.int i :: .ref a :: S) h Q ↔ wX (ms_arr h a) (fun l => wX (ms_iat i l.length) (fun j => WP sc 30 27 L (.int (l.getD j 0) :: S) h Q)) := wp_iald (by decide +kernel : decode (ms_B 30) 26 = .ok (.iaload, 1))
theorem s30_27 {sc : List Int32} {L : List (Option Value)} {a b : Int32} {S : List Value} {h : List ms_C} {Q : Option Value → List ms_C → Prop} : WP sc 30 27 L (.int b :: .int a :: S) h Q ↔ WP sc 30 28 L (.int (a - b) :: S) h Q := wp_on (by decide +kernel : decode (ms_B 30) 27 = .ok (.isub, 1)) rfl (fun _ _ => rfl)
theorem s30_28 {sc : List Int32} {L : List (Option Value)} {S : List Value} {h : List ms_C} {Q : Option Value → List ms_C → Prop} : WP sc 30 28 L S h Q ↔ WP sc 30 29 L (.int (nI 0) :: S) h Q := wp_on (by decide +kernel : decode (ms_B 30) 28 = .ok (.iconst 0, 1)) rfl (fun _ _ => rfl)
theorem s30_29 {sc : List Int32} {L : List (Option Value)} {a b : Int32} {S : List Value} {h : List ms_C} {Q : Option Value → List ms_C → Prop} (hS : (S.map fun v => v.category).sum ≤ 8) : WP sc 30 29 L (.int b :: .int a :: S) h Q ↔ WP sc 30 32 L (.int (if a < b then b else a) :: S) h Q := wp_max (by decide +kernel : decode (ms_B 30) 29 = .ok (.invokestatic 58, 3)) rfl (by decide) (by have h9 : ms_W 30 = 68 := rfl; omega)
theorem s30_32 {sc : List Int32} {L : List (Option Value)} {a : Nat} {i x : Int32} {S : List Value} {h : List ms_C} {Q : Option Value → List ms_C → Prop} : WP sc 30 32 L (.int x :: .int i :: .ref a :: S) h Q ↔ wX (ms_arr h a) (fun l => wX (ms_iat i l.length) (fun j => WP sc 30 33 L S (h.set a (ms_ia (l.set j x))) Q)) := wp_iast (by decide +kernel : decode (ms_B 30) 32 = .ok (.iastore, 1))
theorem s30_33 {sc : List Int32} {l0 l1 : Option Value} {x : Int32} {S : List Value} {h : List ms_C} {Q : Option Value → List ms_C → Prop} (hn : wn_ok l1 = true) : WP sc 30 33 [l0, l1, some (.int x)] S h Q ↔ WP sc 30 36 [l0, l1, some (.int (x + (nI 1)))] S h Q := wp_set (by decide +kernel : decode (ms_B 30) 33 = .ok (.iinc 2 1, 3)) rfl (fun _ _ => rfl) (ms_set_ok (A := [l0]) hn)
theorem s30_36 {sc : List Int32} {L : List (Option Value)} {S : List Value} {h : List ms_C} {Q : Option Value → List ms_C → Prop} : WP sc 30 36 L S h Q ↔ WP sc 30 2 L S h Q := wp_goto (by decide +kernel : decode (ms_B 30) 36 = .ok (.goto (-34), 3)) rfl
theorem s30_39 {sc : List Int32} {l1 l2 : Option Value} {x : Nat} {S : List Value} {h : List ms_C} {Q : Option Value → List ms_C → Prop} : WP sc 30 39 [some (.ref x), l1, l2] S h Q ↔ WP sc 30 40 [some (.ref x), l1, l2] (.ref x :: S) h Q := wp_on (by decide +kernel : decode (ms_B 30) 39 = .ok (.aload_n 0, 1)) rfl (fun _ _ => rfl)
theorem s30_40 {sc : List Int32} {L : List (Option Value)} {S : List Value} {h : List ms_C} {Q : Option Value → List ms_C → Prop} : WP sc 30 40 L S h Q ↔ WP sc 30 41 L (.int (-1) :: S) h Q := wp_on (by decide +kernel : decode (ms_B 30) 40 = .ok (.iconst (-1), 1)) rfl (fun _ _ => rfl)
theorem s30_41 {sc : List Int32} {L : List (Option Value)} {a : Nat} {x0 : Int32} {S : List Value} {h : List ms_C} {Q : Option Value → List ms_C → Prop} (hI : (ms_is h a 4).isSome = true) (hS : (S.map fun v => v.category).sum ≤ 8) : WP sc 30 41 L (.int x0 :: .ref a :: S) h Q ↔ WP sc 31 0 [some (.ref a), some (.int x0), none, none, none, none] [] h (fun r h1 => WP sc 30 44 L (r.toList ++ S) h1 Q) := wp_virt' (vs := [.ref a, .int x0]) hI (by decide +kernel : decode (ms_B 30) 41 = .ok (.invokevirtual 68, 3)) rfl rfl rfl rfl (by decide) (by decide) hS (by simp [ms_args, ms_L, ms_Ll]) rfl
theorem s30_44 {sc : List Int32} {l0 l1 l2 : Option Value} {x : Int32} {S : List Value} {h : List ms_C} {Q : Option Value → List ms_C → Prop} (hn : wn_ok l1 = true) : WP sc 30 44 [l0, l1, l2] (.int x :: S) h Q ↔ WP sc 30 45 [l0, l1, some (.int x)] S h Q := wp_set (by decide +kernel : decode (ms_B 30) 44 = .ok (.istore_n 2, 1)) rfl (fun _ _ => rfl) (ms_set_ok (A := [l0]) hn)
theorem s30_45 {sc : List Int32} {l1 l2 : Option Value} {x : Nat} {S : List Value} {h : List ms_C} {Q : Option Value → List ms_C → Prop} : WP sc 30 45 [some (.ref x), l1, l2] S h Q ↔ WP sc 30 46 [some (.ref x), l1, l2] (.ref x :: S) h Q := wp_on (by decide +kernel : decode (ms_B 30) 45 = .ok (.aload_n 0, 1)) rfl (fun _ _ => rfl)
theorem s30_46 {sc : List Int32} {l0 l2 : Option Value} {x : Int32} {S : List Value} {h : List ms_C} {Q : Option Value → List ms_C → Prop} : WP sc 30 46 [l0, some (.int x), l2] S h Q ↔ WP sc 30 47 [l0, some (.int x), l2] (.int x :: S) h Q := wp_on (by decide +kernel : decode (ms_B 30) 46 = .ok (.iload_n 1, 1)) rfl (fun _ _ => rfl)
theorem s30_47 {sc : List Int32} {L : List (Option Value)} {a : Int32} {S : List Value} {h : List ms_C} {Q : Option Value → List ms_C → Prop} : WP sc 30 47 L (.int a :: S) h Q ↔ (if a = 0 then WP sc 30 58 L S h Q else WP sc 30 50 L S h Q) := wp_ifC (by decide +kernel : decode (ms_B 30) 47 = .ok (.ifCond .eq 11, 3)) rfl Iff.rfl
theorem s30_50 {sc : List Int32} {l1 l2 : Option Value} {x : Nat} {S : List Value} {h : List ms_C} {Q : Option Value → List ms_C → Prop} : WP sc 30 50 [some (.ref x), l1, l2] S h Q ↔ WP sc 30 51 [some (.ref x), l1, l2] (.ref x :: S) h Q := wp_on (by decide +kernel : decode (ms_B 30) 50 = .ok (.aload_n 0, 1)) rfl (fun _ _ => rfl)
theorem s30_51 {sc : List Int32} {l0 l1 : Option Value} {x : Int32} {S : List Value} {h : List ms_C} {Q : Option Value → List ms_C → Prop} : WP sc 30 51 [l0, l1, some (.int x)] S h Q ↔ WP sc 30 52 [l0, l1, some (.int x)] (.int x :: S) h Q := wp_on (by decide +kernel : decode (ms_B 30) 51 = .ok (.iload_n 2, 1)) rfl (fun _ _ => rfl)
theorem s30_52 {sc : List Int32} {L : List (Option Value)} {a : Nat} {x0 : Int32} {S : List Value} {h : List ms_C} {Q : Option Value → List ms_C → Prop} (hI : (ms_is h a 4).isSome = true) (hS : (S.map fun v => v.category).sum ≤ 8) : WP sc 30 52 L (.int x0 :: .ref a :: S) h Q ↔ WP sc 31 0 [some (.ref a), some (.int x0), none, none, none, none] [] h (fun r h1 => WP sc 30 55 L (r.toList ++ S) h1 Q) := wp_virt' (vs := [.ref a, .int x0]) hI (by decide +kernel : decode (ms_B 30) 52 = .ok (.invokevirtual 68, 3)) rfl rfl rfl rfl (by decide) (by decide) hS (by simp [ms_args, ms_L, ms_Ll]) rfl
theorem s30_55 {sc : List Int32} {L : List (Option Value)} {S : List Value} {h : List ms_C} {Q : Option Value → List ms_C → Prop} : WP sc 30 55 L S h Q ↔ WP sc 30 59 L S h Q := wp_goto (by decide +kernel : decode (ms_B 30) 55 = .ok (.goto 4, 3)) rfl
theorem s30_58 {sc : List Int32} {l0 l1 : Option Value} {x : Int32} {S : List Value} {h : List ms_C} {Q : Option Value → List ms_C → Prop} : WP sc 30 58 [l0, l1, some (.int x)] S h Q ↔ WP sc 30 59 [l0, l1, some (.int x)] (.int x :: S) h Q := wp_on (by decide +kernel : decode (ms_B 30) 58 = .ok (.iload_n 2, 1)) rfl (fun _ _ => rfl)
theorem s30_59 {sc : List Int32} {L : List (Option Value)} {a : Nat} {x0 : Int32} {S : List Value} {h : List ms_C} {Q : Option Value → List ms_C → Prop} (hI : (ms_is h a 4).isSome = true) (hS : (S.map fun v => v.category).sum ≤ 8) : WP sc 30 59 L (.int x0 :: .ref a :: S) h Q ↔ WP sc 32 0 [some (.ref a), some (.int x0)] [] h (fun r h1 => WP sc 30 62 L (r.toList ++ S) h1 Q) := wp_virt' (vs := [.ref a, .int x0]) hI (by decide +kernel : decode (ms_B 30) 59 = .ok (.invokevirtual 72, 3)) rfl rfl rfl rfl (by decide) (by decide) hS (by simp [ms_args, ms_L, ms_Ll]) rfl
theorem s30_62 {sc : List Int32} {l1 l2 : Option Value} {x : Nat} {S : List Value} {h : List ms_C} {Q : Option Value → List ms_C → Prop} : WP sc 30 62 [some (.ref x), l1, l2] S h Q ↔ WP sc 30 63 [some (.ref x), l1, l2] (.ref x :: S) h Q := wp_on (by decide +kernel : decode (ms_B 30) 62 = .ok (.aload_n 0, 1)) rfl (fun _ _ => rfl)
theorem s30_63 {sc : List Int32} {L : List (Option Value)} {a : Nat} {S : List Value} {h : List ms_C} {Q : Option Value → List ms_C → Prop} : WP sc 30 63 L (.ref a :: S) h Q ↔ WP sc 30 64 L (.ref a :: .ref a :: S) h Q := wp_on (by decide +kernel : decode (ms_B 30) 63 = .ok (.dup, 1)) rfl (fun _ _ => rfl)
theorem s30_64 {sc : List Int32} {L : List (Option Value)} {a : Nat} {S : List Value} {h : List ms_C} {Q : Option Value → List ms_C → Prop} : WP sc 30 64 L (.ref a :: S) h Q ↔ wX (ms_get h a 4 8) (fun v => WP sc 30 67 L (v :: S) h Q) := wp_getf (by decide +kernel : decode (ms_B 30) 64 = .ok (.getfield 40, 3)) rfl
theorem s30_67 {sc : List Int32} {L : List (Option Value)} {S : List Value} {h : List ms_C} {Q : Option Value → List ms_C → Prop} : WP sc 30 67 L S h Q ↔ WP sc 30 68 L (.int (nI 1) :: S) h Q := wp_on (by decide +kernel : decode (ms_B 30) 67 = .ok (.iconst 1, 1)) rfl (fun _ _ => rfl)
theorem s30_68 {sc : List Int32} {L : List (Option Value)} {a b : Int32} {S : List Value} {h : List ms_C} {Q : Option Value → List ms_C → Prop} : WP sc 30 68 L (.int b :: .int a :: S) h Q ↔ WP sc 30 69 L (.int (a + b) :: S) h Q := wp_on (by decide +kernel : decode (ms_B 30) 68 = .ok (.iadd, 1)) rfl (fun _ _ => rfl)
theorem s30_69 {sc : List Int32} {L : List (Option Value)} {a : Nat} {x : Int32} {S : List Value} {h : List ms_C} {Q : Option Value → List ms_C → Prop} : WP sc 30 69 L (.int x :: .ref a :: S) h Q ↔ wX (ms_is h a 4) (fun fs => 8 < fs.length ∧ WP sc 30 72 L S (h.set a (ms_obj 4 (fs.set 8 (.int x)))) Q) := wp_put (by decide +kernel : decode (ms_B 30) 69 = .ok (.putfield 40, 3)) rfl rfl (by decide) rfl rfl
theorem s30_72 {sc : List Int32} {L : List (Option Value)} {h : List ms_C} {Q : Option Value → List ms_C → Prop} : WP sc 30 72 L [] h Q ↔ Q none h := wp_ret (by decide +kernel : decode (ms_B 30) 72 = .ok (.return_, 1)) rfl
theorem s31_0 {sc : List Int32} {L : List (Option Value)} {S : List Value} {h : List ms_C} {Q : Option Value → List ms_C → Prop} : WP sc 31 0 L S h Q ↔ WP sc 31 1 L (.int (-1) :: S) h Q := wp_on (by decide +kernel : decode (ms_B 31) 0 = .ok (.iconst (-1), 1)) rfl (fun _ _ => rfl)
theorem s31_1 {sc : List Int32} {l0 l1 l2 l3 l4 l5 : Option Value} {x : Int32} {S : List Value} {h : List ms_C} {Q : Option Value → List ms_C → Prop} (hn : wn_ok l1 = true) : WP sc 31 1 [l0, l1, l2, l3, l4, l5] (.int x :: S) h Q ↔ WP sc 31 2 [l0, l1, some (.int x), l3, l4, l5] S h Q := wp_set (by decide +kernel : decode (ms_B 31) 1 = .ok (.istore_n 2, 1)) rfl (fun _ _ => rfl) (ms_set_ok (A := [l0]) hn)
theorem s31_2 {sc : List Int32} {L : List (Option Value)} {S : List Value} {h : List ms_C} {Q : Option Value → List ms_C → Prop} : WP sc 31 2 L S h Q ↔ WP sc 31 3 L (.int (nI 0) :: S) h Q := wp_on (by decide +kernel : decode (ms_B 31) 2 = .ok (.iconst 0, 1)) rfl (fun _ _ => rfl)
theorem s31_3 {sc : List Int32} {l0 l1 l2 l3 l4 l5 : Option Value} {x : Int32} {S : List Value} {h : List ms_C} {Q : Option Value → List ms_C → Prop} (hn : wn_ok l2 = true) : WP sc 31 3 [l0, l1, l2, l3, l4, l5] (.int x :: S) h Q ↔ WP sc 31 4 [l0, l1, l2, some (.int x), l4, l5] S h Q := wp_set (by decide +kernel : decode (ms_B 31) 3 = .ok (.istore_n 3, 1)) rfl (fun _ _ => rfl) (ms_set_ok (A := [l0, l1]) hn)
theorem s31_4 {sc : List Int32} {L : List (Option Value)} {S : List Value} {h : List ms_C} {Q : Option Value → List ms_C → Prop} : WP sc 31 4 L S h Q ↔ WP sc 31 5 L (.int (nI 0) :: S) h Q := wp_on (by decide +kernel : decode (ms_B 31) 4 = .ok (.iconst 0, 1)) rfl (fun _ _ => rfl)
theorem s31_5 {sc : List Int32} {l0 l1 l2 l3 l4 l5 : Option Value} {x : Int32} {S : List Value} {h : List ms_C} {Q : Option Value → List ms_C → Prop} (hn : wn_ok l3 = true) : WP sc 31 5 [l0, l1, l2, l3, l4, l5] (.int x :: S) h Q ↔ WP sc 31 7 [l0, l1, l2, l3, some (.int x), l5] S h Q := wp_set (by decide +kernel : decode (ms_B 31) 5 = .ok (.istore 4, 2)) rfl (fun _ _ => rfl) (ms_set_ok (A := [l0, l1, l2]) hn)
theorem s31_7 {sc : List Int32} {l0 l1 l2 l3 l5 : Option Value} {x : Int32} {S : List Value} {h : List ms_C} {Q : Option Value → List ms_C → Prop} : WP sc 31 7 [l0, l1, l2, l3, some (.int x), l5] S h Q ↔ WP sc 31 9 [l0, l1, l2, l3, some (.int x), l5] (.int x :: S) h Q := wp_on (by decide +kernel : decode (ms_B 31) 7 = .ok (.iload 4, 2)) rfl (fun _ _ => rfl)
theorem s31_9 {sc : List Int32} {l1 l2 l3 l4 l5 : Option Value} {x : Nat} {S : List Value} {h : List ms_C} {Q : Option Value → List ms_C → Prop} : WP sc 31 9 [some (.ref x), l1, l2, l3, l4, l5] S h Q ↔ WP sc 31 10 [some (.ref x), l1, l2, l3, l4, l5] (.ref x :: S) h Q := wp_on (by decide +kernel : decode (ms_B 31) 9 = .ok (.aload_n 0, 1)) rfl (fun _ _ => rfl)
theorem s31_10 {sc : List Int32} {L : List (Option Value)} {a : Nat} {S : List Value} {h : List ms_C} {Q : Option Value → List ms_C → Prop} : WP sc 31 10 L (.ref a :: S) h Q ↔ wX (ms_get h a 4 6) (fun v => WP sc 31 13 L (v :: S) h Q) := wp_getf (by decide +kernel : decode (ms_B 31) 10 = .ok (.getfield 34, 3)) rfl
theorem s31_13 {sc : List Int32} {L : List (Option Value)} {a b : Int32} {S : List Value} {h : List ms_C} {Q : Option Value → List ms_C → Prop} : WP sc 31 13 L (.int b :: .int a :: S) h Q ↔ (if b ≤ a then WP sc 31 53 L S h Q else WP sc 31 16 L S h Q) := wp_ifI (by decide +kernel : decode (ms_B 31) 13 = .ok (.if_icmp .ge 40, 3)) rfl Iff.rfl
theorem s31_16 {sc : List Int32} {l1 l2 l3 l4 l5 : Option Value} {x : Nat} {S : List Value} {h : List ms_C} {Q : Option Value → List ms_C → Prop} : WP sc 31 16 [some (.ref x), l1, l2, l3, l4, l5] S h Q ↔ WP sc 31 17 [some (.ref x), l1, l2, l3, l4, l5] (.ref x :: S) h Q := wp_on (by decide +kernel : decode (ms_B 31) 16 = .ok (.aload_n 0, 1)) rfl (fun _ _ => rfl)
theorem s31_17 {sc : List Int32} {l0 l1 l2 l3 l5 : Option Value} {x : Int32} {S : List Value} {h : List ms_C} {Q : Option Value → List ms_C → Prop} : WP sc 31 17 [l0, l1, l2, l3, some (.int x), l5] S h Q ↔ WP sc 31 19 [l0, l1, l2, l3, some (.int x), l5] (.int x :: S) h Q := wp_on (by decide +kernel : decode (ms_B 31) 17 = .ok (.iload 4, 2)) rfl (fun _ _ => rfl)
theorem s31_19 {sc : List Int32} {L : List (Option Value)} {a : Nat} {x0 : Int32} {S : List Value} {h : List ms_C} {Q : Option Value → List ms_C → Prop} (hI : (ms_is h a 4).isSome = true) (hS : (S.map fun v => v.category).sum ≤ 8) : WP sc 31 19 L (.int x0 :: .ref a :: S) h Q ↔ WP sc 27 0 [some (.ref a), some (.int x0), none] [] h (fun r h1 => WP sc 31 22 L (r.toList ++ S) h1 Q) := wp_virt' (vs := [.ref a, .int x0]) hI (by decide +kernel : decode (ms_B 31) 19 = .ok (.invokevirtual 76, 3)) rfl rfl rfl rfl (by decide) (by decide) hS (by simp [ms_args, ms_L, ms_Ll]) rfl
theorem s31_22 {sc : List Int32} {l0 l1 l2 l3 l4 l5 : Option Value} {x : Int32} {S : List Value} {h : List ms_C} {Q : Option Value → List ms_C → Prop} (hn : wn_ok l4 = true) : WP sc 31 22 [l0, l1, l2, l3, l4, l5] (.int x :: S) h Q ↔ WP sc 31 24 [l0, l1, l2, l3, l4, some (.int x)] S h Q := wp_set (by decide +kernel : decode (ms_B 31) 22 = .ok (.istore 5, 2)) rfl (fun _ _ => rfl) (ms_set_ok (A := [l0, l1, l2, l3]) hn)
theorem s31_24 {sc : List Int32} {l0 l1 l2 l3 l5 : Option Value} {x : Int32} {S : List Value} {h : List ms_C} {Q : Option Value → List ms_C → Prop} : WP sc 31 24 [l0, l1, l2, l3, some (.int x), l5] S h Q ↔ WP sc 31 26 [l0, l1, l2, l3, some (.int x), l5] (.int x :: S) h Q := wp_on (by decide +kernel : decode (ms_B 31) 24 = .ok (.iload 4, 2)) rfl (fun _ _ => rfl)
theorem s31_26 {sc : List Int32} {l0 l2 l3 l4 l5 : Option Value} {x : Int32} {S : List Value} {h : List ms_C} {Q : Option Value → List ms_C → Prop} : WP sc 31 26 [l0, some (.int x), l2, l3, l4, l5] S h Q ↔ WP sc 31 27 [l0, some (.int x), l2, l3, l4, l5] (.int x :: S) h Q := wp_on (by decide +kernel : decode (ms_B 31) 26 = .ok (.iload_n 1, 1)) rfl (fun _ _ => rfl)
theorem s31_27 {sc : List Int32} {L : List (Option Value)} {a b : Int32} {S : List Value} {h : List ms_C} {Q : Option Value → List ms_C → Prop} : WP sc 31 27 L (.int b :: .int a :: S) h Q ↔ (if a = b then WP sc 31 47 L S h Q else WP sc 31 30 L S h Q) := wp_ifI (by decide +kernel : decode (ms_B 31) 27 = .ok (.if_icmp .eq 20, 3)) rfl Iff.rfl
theorem s31_30 {sc : List Int32} {l0 l1 l3 l4 l5 : Option Value} {x : Int32} {S : List Value} {h : List ms_C} {Q : Option Value → List ms_C → Prop} : WP sc 31 30 [l0, l1, some (.int x), l3, l4, l5] S h Q ↔ WP sc 31 31 [l0, l1, some (.int x), l3, l4, l5] (.int x :: S) h Q := wp_on (by decide +kernel : decode (ms_B 31) 30 = .ok (.iload_n 2, 1)) rfl (fun _ _ => rfl)
theorem s31_31 {sc : List Int32} {L : List (Option Value)} {S : List Value} {h : List ms_C} {Q : Option Value → List ms_C → Prop} : WP sc 31 31 L S h Q ↔ WP sc 31 32 L (.int (-1) :: S) h Q := wp_on (by decide +kernel : decode (ms_B 31) 31 = .ok (.iconst (-1), 1)) rfl (fun _ _ => rfl)
theorem s31_32 {sc : List Int32} {L : List (Option Value)} {a b : Int32} {S : List Value} {h : List ms_C} {Q : Option Value → List ms_C → Prop} : WP sc 31 32 L (.int b :: .int a :: S) h Q ↔ (if a = b then WP sc 31 41 L S h Q else WP sc 31 35 L S h Q) := wp_ifI (by decide +kernel : decode (ms_B 31) 32 = .ok (.if_icmp .eq 9, 3)) rfl Iff.rfl
theorem s31_35 {sc : List Int32} {l0 l1 l2 l3 l4 : Option Value} {x : Int32} {S : List Value} {h : List ms_C} {Q : Option Value → List ms_C → Prop} : WP sc 31 35 [l0, l1, l2, l3, l4, some (.int x)] S h Q ↔ WP sc 31 37 [l0, l1, l2, l3, l4, some (.int x)] (.int x :: S) h Q := wp_on (by decide +kernel : decode (ms_B 31) 35 = .ok (.iload 5, 2)) rfl (fun _ _ => rfl)
theorem s31_37 {sc : List Int32} {l0 l1 l2 l4 l5 : Option Value} {x : Int32} {S : List Value} {h : List ms_C} {Q : Option Value → List ms_C → Prop} : WP sc 31 37 [l0, l1, l2, some (.int x), l4, l5] S h Q ↔ WP sc 31 38 [l0, l1, l2, some (.int x), l4, l5] (.int x :: S) h Q := wp_on (by decide +kernel : decode (ms_B 31) 37 = .ok (.iload_n 3, 1)) rfl (fun _ _ => rfl)
theorem s31_38 {sc : List Int32} {L : List (Option Value)} {a b : Int32} {S : List Value} {h : List ms_C} {Q : Option Value → List ms_C → Prop} : WP sc 31 38 L (.int b :: .int a :: S) h Q ↔ (if b ≤ a then WP sc 31 47 L S h Q else WP sc 31 41 L S h Q) := wp_ifI (by decide +kernel : decode (ms_B 31) 38 = .ok (.if_icmp .ge 9, 3)) rfl Iff.rfl
theorem s31_41 {sc : List Int32} {l0 l1 l2 l3 l5 : Option Value} {x : Int32} {S : List Value} {h : List ms_C} {Q : Option Value → List ms_C → Prop} : WP sc 31 41 [l0, l1, l2, l3, some (.int x), l5] S h Q ↔ WP sc 31 43 [l0, l1, l2, l3, some (.int x), l5] (.int x :: S) h Q := wp_on (by decide +kernel : decode (ms_B 31) 41 = .ok (.iload 4, 2)) rfl (fun _ _ => rfl)
theorem s31_43 {sc : List Int32} {l0 l1 l2 l3 l4 l5 : Option Value} {x : Int32} {S : List Value} {h : List ms_C} {Q : Option Value → List ms_C → Prop} (hn : wn_ok l1 = true) : WP sc 31 43 [l0, l1, l2, l3, l4, l5] (.int x :: S) h Q ↔ WP sc 31 44 [l0, l1, some (.int x), l3, l4, l5] S h Q := wp_set (by decide +kernel : decode (ms_B 31) 43 = .ok (.istore_n 2, 1)) rfl (fun _ _ => rfl) (ms_set_ok (A := [l0]) hn)
theorem s31_44 {sc : List Int32} {l0 l1 l2 l3 l4 : Option Value} {x : Int32} {S : List Value} {h : List ms_C} {Q : Option Value → List ms_C → Prop} : WP sc 31 44 [l0, l1, l2, l3, l4, some (.int x)] S h Q ↔ WP sc 31 46 [l0, l1, l2, l3, l4, some (.int x)] (.int x :: S) h Q := wp_on (by decide +kernel : decode (ms_B 31) 44 = .ok (.iload 5, 2)) rfl (fun _ _ => rfl)
theorem s31_46 {sc : List Int32} {l0 l1 l2 l3 l4 l5 : Option Value} {x : Int32} {S : List Value} {h : List ms_C} {Q : Option Value → List ms_C → Prop} (hn : wn_ok l2 = true) : WP sc 31 46 [l0, l1, l2, l3, l4, l5] (.int x :: S) h Q ↔ WP sc 31 47 [l0, l1, l2, some (.int x), l4, l5] S h Q := wp_set (by decide +kernel : decode (ms_B 31) 46 = .ok (.istore_n 3, 1)) rfl (fun _ _ => rfl) (ms_set_ok (A := [l0, l1]) hn)
theorem s31_47 {sc : List Int32} {l0 l1 l2 l3 l5 : Option Value} {x : Int32} {S : List Value} {h : List ms_C} {Q : Option Value → List ms_C → Prop} (hn : wn_ok l3 = true) : WP sc 31 47 [l0, l1, l2, l3, some (.int x), l5] S h Q ↔ WP sc 31 50 [l0, l1, l2, l3, some (.int (x + (nI 1))), l5] S h Q := wp_set (by decide +kernel : decode (ms_B 31) 47 = .ok (.iinc 4 1, 3)) rfl (fun _ _ => rfl) (ms_set_ok (A := [l0, l1, l2]) hn)
theorem s31_50 {sc : List Int32} {L : List (Option Value)} {S : List Value} {h : List ms_C} {Q : Option Value → List ms_C → Prop} : WP sc 31 50 L S h Q ↔ WP sc 31 7 L S h Q := wp_goto (by decide +kernel : decode (ms_B 31) 50 = .ok (.goto (-43), 3)) rfl
theorem s31_53 {sc : List Int32} {l0 l1 l3 l4 l5 : Option Value} {x : Int32} {S : List Value} {h : List ms_C} {Q : Option Value → List ms_C → Prop} : WP sc 31 53 [l0, l1, some (.int x), l3, l4, l5] S h Q ↔ WP sc 31 54 [l0, l1, some (.int x), l3, l4, l5] (.int x :: S) h Q := wp_on (by decide +kernel : decode (ms_B 31) 53 = .ok (.iload_n 2, 1)) rfl (fun _ _ => rfl)
theorem s31_54 {sc : List Int32} {L : List (Option Value)} {x : Int32} {h : List ms_C} {Q : Option Value → List ms_C → Prop} : WP sc 31 54 L [.int x] h Q ↔ Q (some (.int x)) h := wp_iret (by decide +kernel : decode (ms_B 31) 54 = .ok (.ireturn, 1)) rfl
theorem s32_0 {sc : List Int32} {l1 : Option Value} {x : Nat} {S : List Value} {h : List ms_C} {Q : Option Value → List ms_C → Prop} : WP sc 32 0 [some (.ref x), l1] S h Q ↔ WP sc 32 1 [some (.ref x), l1] (.ref x :: S) h Q := wp_on (by decide +kernel : decode (ms_B 32) 0 = .ok (.aload_n 0, 1)) rfl (fun _ _ => rfl)
theorem s32_1 {sc : List Int32} {l0 : Option Value} {x : Int32} {S : List Value} {h : List ms_C} {Q : Option Value → List ms_C → Prop} : WP sc 32 1 [l0, some (.int x)] S h Q ↔ WP sc 32 2 [l0, some (.int x)] (.int x :: S) h Q := wp_on (by decide +kernel : decode (ms_B 32) 1 = .ok (.iload_n 1, 1)) rfl (fun _ _ => rfl)
theorem s32_2 {sc : List Int32} {L : List (Option Value)} {a : Nat} {x0 : Int32} {S : List Value} {h : List ms_C} {Q : Option Value → List ms_C → Prop} (hI : (ms_is h a 4).isSome = true) (hS : (S.map fun v => v.category).sum ≤ 8) : WP sc 32 2 L (.int x0 :: .ref a :: S) h Q ↔ WP sc 26 0 [some (.ref a), some (.int x0)] [] h (fun r h1 => WP sc 32 5 L (r.toList ++ S) h1 Q) := wp_virt' (vs := [.ref a, .int x0]) hI (by decide +kernel : decode (ms_B 32) 2 = .ok (.invokevirtual 79, 3)) rfl rfl rfl rfl (by decide) (by decide) hS (by simp [ms_args, ms_L, ms_Ll]) rfl
theorem s32_5 {sc : List Int32} {L : List (Option Value)} {a : Int32} {S : List Value} {h : List ms_C} {Q : Option Value → List ms_C → Prop} : WP sc 32 5 L (.int a :: S) h Q ↔ (if a = 0 then WP sc 32 8 L S h Q else WP sc 32 9 L S h Q) := (wp_ifC (c := ¬ a = 0) (by decide +kernel : decode (ms_B 32) 5 = .ok (.ifCond .ne 4, 3)) rfl Iff.rfl).trans (by rw [ite_not])
theorem s32_8 {sc : List Int32} {L : List (Option Value)} {h : List ms_C} {Q : Option Value → List ms_C → Prop} : WP sc 32 8 L [] h Q ↔ Q none h := wp_ret (by decide +kernel : decode (ms_B 32) 8 = .ok (.return_, 1)) rfl
theorem s32_9 {sc : List Int32} {l1 : Option Value} {x : Nat} {S : List Value} {h : List ms_C} {Q : Option Value → List ms_C → Prop} : WP sc 32 9 [some (.ref x), l1] S h Q ↔ WP sc 32 10 [some (.ref x), l1] (.ref x :: S) h Q := wp_on (by decide +kernel : decode (ms_B 32) 9 = .ok (.aload_n 0, 1)) rfl (fun _ _ => rfl)
theorem s32_10 {sc : List Int32} {L : List (Option Value)} {a : Nat} {S : List Value} {h : List ms_C} {Q : Option Value → List ms_C → Prop} : WP sc 32 10 L (.ref a :: S) h Q ↔ wX (ms_get h a 4 1) (fun v => WP sc 32 13 L (v :: S) h Q) := wp_getf (by decide +kernel : decode (ms_B 32) 10 = .ok (.getfield 15, 3)) rfl
theorem s32_13 {sc : List Int32} {l0 : Option Value} {x : Int32} {S : List Value} {h : List ms_C} {Q : Option Value → List ms_C → Prop} : WP sc 32 13 [l0, some (.int x)] S h Q ↔ WP sc 32 14 [l0, some (.int x)] (.int x :: S) h Q := wp_on (by decide +kernel : decode (ms_B 32) 13 = .ok (.iload_n 1, 1)) rfl (fun _ _ => rfl)
theorem s32_14 {sc : List Int32} {L : List (Option Value)} {a : Nat} {i : Int32} {S : List Value} {h : List ms_C} {Q : Option Value → List ms_C → Prop} : WP sc 32 14 L (.int i :: .ref a :: S) h Q ↔ wX (ms_arr h a) (fun l => wX (ms_iat i l.length) (fun j => WP sc 32 15 L (.int (l.getD j 0) :: S) h Q)) := wp_iald (by decide +kernel : decode (ms_B 32) 14 = .ok (.iaload, 1))
theorem s32_15 {sc : List Int32} {L : List (Option Value)} {a : Int32} {S : List Value} {h : List ms_C} {Q : Option Value → List ms_C → Prop} : WP sc 32 15 L (.int a :: S) h Q ↔ (if a = 0 then WP sc 32 18 L S h Q else WP sc 32 31 L S h Q) := (wp_ifC (c := ¬ a = 0) (by decide +kernel : decode (ms_B 32) 15 = .ok (.ifCond .ne 16, 3)) rfl Iff.rfl).trans (by rw [ite_not])
theorem s32_18 {sc : List Int32} {l1 : Option Value} {x : Nat} {S : List Value} {h : List ms_C} {Q : Option Value → List ms_C → Prop} : WP sc 32 18 [some (.ref x), l1] S h Q ↔ WP sc 32 19 [some (.ref x), l1] (.ref x :: S) h Q := wp_on (by decide +kernel : decode (ms_B 32) 18 = .ok (.aload_n 0, 1)) rfl (fun _ _ => rfl)
theorem s32_19 {sc : List Int32} {L : List (Option Value)} {a : Nat} {S : List Value} {h : List ms_C} {Q : Option Value → List ms_C → Prop} : WP sc 32 19 L (.ref a :: S) h Q ↔ WP sc 32 20 L (.ref a :: .ref a :: S) h Q := wp_on (by decide +kernel : decode (ms_B 32) 19 = .ok (.dup, 1)) rfl (fun _ _ => rfl)
theorem s32_20 {sc : List Int32} {L : List (Option Value)} {a : Nat} {S : List Value} {h : List ms_C} {Q : Option Value → List ms_C → Prop} : WP sc 32 20 L (.ref a :: S) h Q ↔ wX (ms_get h a 4 10) (fun v => WP sc 32 23 L (v :: S) h Q) := wp_getf (by decide +kernel : decode (ms_B 32) 20 = .ok (.getfield 43, 3)) rfl
theorem s32_23 {sc : List Int32} {L : List (Option Value)} {S : List Value} {h : List ms_C} {Q : Option Value → List ms_C → Prop} : WP sc 32 23 L S h Q ↔ WP sc 32 24 L (.int (nI 1) :: S) h Q := wp_on (by decide +kernel : decode (ms_B 32) 23 = .ok (.iconst 1, 1)) rfl (fun _ _ => rfl)
theorem s32_24 {sc : List Int32} {L : List (Option Value)} {a b : Int32} {S : List Value} {h : List ms_C} {Q : Option Value → List ms_C → Prop} : WP sc 32 24 L (.int b :: .int a :: S) h Q ↔ WP sc 32 25 L (.int (a + b) :: S) h Q := wp_on (by decide +kernel : decode (ms_B 32) 24 = .ok (.iadd, 1)) rfl (fun _ _ => rfl)
theorem s32_25 {sc : List Int32} {L : List (Option Value)} {a : Nat} {x : Int32} {S : List Value} {h : List ms_C} {Q : Option Value → List ms_C → Prop} : WP sc 32 25 L (.int x :: .ref a :: S) h Q ↔ wX (ms_is h a 4) (fun fs => 10 < fs.length ∧ WP sc 32 28 L S (h.set a (ms_obj 4 (fs.set 10 (.int x)))) Q) := wp_put (by decide +kernel : decode (ms_B 32) 25 = .ok (.putfield 43, 3)) rfl rfl (by decide) rfl rfl
theorem s32_28 {sc : List Int32} {L : List (Option Value)} {S : List Value} {h : List ms_C} {Q : Option Value → List ms_C → Prop} : WP sc 32 28 L S h Q ↔ WP sc 32 59 L S h Q := wp_goto (by decide +kernel : decode (ms_B 32) 28 = .ok (.goto 31, 3)) rfl
theorem s32_31 {sc : List Int32} {l1 : Option Value} {x : Nat} {S : List Value} {h : List ms_C} {Q : Option Value → List ms_C → Prop} : WP sc 32 31 [some (.ref x), l1] S h Q ↔ WP sc 32 32 [some (.ref x), l1] (.ref x :: S) h Q := wp_on (by decide +kernel : decode (ms_B 32) 31 = .ok (.aload_n 0, 1)) rfl (fun _ _ => rfl)
theorem s32_32 {sc : List Int32} {l0 : Option Value} {x : Int32} {S : List Value} {h : List ms_C} {Q : Option Value → List ms_C → Prop} : WP sc 32 32 [l0, some (.int x)] S h Q ↔ WP sc 32 33 [l0, some (.int x)] (.int x :: S) h Q := wp_on (by decide +kernel : decode (ms_B 32) 32 = .ok (.iload_n 1, 1)) rfl (fun _ _ => rfl)
theorem s32_33 {sc : List Int32} {l1 : Option Value} {x : Nat} {S : List Value} {h : List ms_C} {Q : Option Value → List ms_C → Prop} : WP sc 32 33 [some (.ref x), l1] S h Q ↔ WP sc 32 34 [some (.ref x), l1] (.ref x :: S) h Q := wp_on (by decide +kernel : decode (ms_B 32) 33 = .ok (.aload_n 0, 1)) rfl (fun _ _ => rfl)
theorem s32_34 {sc : List Int32} {L : List (Option Value)} {a : Nat} {S : List Value} {h : List ms_C} {Q : Option Value → List ms_C → Prop} : WP sc 32 34 L (.ref a :: S) h Q ↔ wX (ms_get h a 4 0) (fun v => WP sc 32 37 L (v :: S) h Q) := wp_getf (by decide +kernel : decode (ms_B 32) 34 = .ok (.getfield 9, 3)) rfl
theorem s32_37 {sc : List Int32} {l0 : Option Value} {x : Int32} {S : List Value} {h : List ms_C} {Q : Option Value → List ms_C → Prop} : WP sc 32 37 [l0, some (.int x)] S h Q ↔ WP sc 32 38 [l0, some (.int x)] (.int x :: S) h Q := wp_on (by decide +kernel : decode (ms_B 32) 37 = .ok (.iload_n 1, 1)) rfl (fun _ _ => rfl)
theorem s32_38 {sc : List Int32} {L : List (Option Value)} {a : Nat} {i : Int32} {S : List Value} {h : List ms_C} {Q : Option Value → List ms_C → Prop} : WP sc 32 38 L (.int i :: .ref a :: S) h Q ↔ wX (ms_arr h a) (fun l => wX (ms_iat i l.length) (fun j => WP sc 32 39 L (.int (l.getD j 0) :: S) h Q)) := wp_iald (by decide +kernel : decode (ms_B 32) 38 = .ok (.iaload, 1))
theorem s32_39 {sc : List Int32} {L : List (Option Value)} {S : List Value} {h : List ms_C} {Q : Option Value → List ms_C → Prop} : WP sc 32 39 L S h Q ↔ WP sc 32 40 L (.int (nI 3) :: S) h Q := wp_on (by decide +kernel : decode (ms_B 32) 39 = .ok (.iconst 3, 1)) rfl (fun _ _ => rfl)
theorem s32_40 {sc : List Int32} {L : List (Option Value)} {a b : Int32} {S : List Value} {h : List ms_C} {Q : Option Value → List ms_C → Prop} : WP sc 32 40 L (.int b :: .int a :: S) h Q ↔ (if a = b then WP sc 32 43 L S h Q else WP sc 32 52 L S h Q) := (wp_ifI (c := ¬ a = b) (by decide +kernel : decode (ms_B 32) 40 = .ok (.if_icmp .ne 12, 3)) rfl Iff.rfl).trans (by rw [ite_not])
theorem s32_43 {sc : List Int32} {l1 : Option Value} {x : Nat} {S : List Value} {h : List ms_C} {Q : Option Value → List ms_C → Prop} : WP sc 32 43 [some (.ref x), l1] S h Q ↔ WP sc 32 44 [some (.ref x), l1] (.ref x :: S) h Q := wp_on (by decide +kernel : decode (ms_B 32) 43 = .ok (.aload_n 0, 1)) rfl (fun _ _ => rfl)
theorem s32_44 {sc : List Int32} {L : List (Option Value)} {a : Nat} {S : List Value} {h : List ms_C} {Q : Option Value → List ms_C → Prop} (hI : (ms_is h a 4).isSome = true) (hS : (S.map fun v => v.category).sum ≤ 8) : WP sc 32 44 L (.ref a :: S) h Q ↔ WP sc 33 0 [some (.ref a), none] [] h (fun r h1 => WP sc 32 47 L (r.toList ++ S) h1 Q) := wp_virt' (vs := [.ref a]) hI (by decide +kernel : decode (ms_B 32) 44 = .ok (.invokevirtual 82, 3)) rfl rfl rfl rfl (by decide) (by decide) hS (by simp [ms_args, ms_L, ms_Ll]) rfl
theorem s32_47 {sc : List Int32} {L : List (Option Value)} {S : List Value} {h : List ms_C} {Q : Option Value → List ms_C → Prop} : WP sc 32 47 L S h Q ↔ WP sc 32 48 L (.int (nI 2) :: S) h Q := wp_on (by decide +kernel : decode (ms_B 32) 47 = .ok (.iconst 2, 1)) rfl (fun _ _ => rfl)
theorem s32_48 {sc : List Int32} {L : List (Option Value)} {a b : Int32} {S : List Value} {h : List ms_C} {Q : Option Value → List ms_C → Prop} (hb : ¬ b = 0) : WP sc 32 48 L (.int b :: .int a :: S) h Q ↔ WP sc 32 49 L (.int (a / b) :: S) h Q := wp_div (by decide +kernel : decode (ms_B 32) 48 = .ok (.idiv, 1)) hb
theorem s32_49 {sc : List Int32} {L : List (Option Value)} {S : List Value} {h : List ms_C} {Q : Option Value → List ms_C → Prop} : WP sc 32 49 L S h Q ↔ WP sc 32 56 L S h Q := wp_goto (by decide +kernel : decode (ms_B 32) 49 = .ok (.goto 7, 3)) rfl
theorem s32_52 {sc : List Int32} {l1 : Option Value} {x : Nat} {S : List Value} {h : List ms_C} {Q : Option Value → List ms_C → Prop} : WP sc 32 52 [some (.ref x), l1] S h Q ↔ WP sc 32 53 [some (.ref x), l1] (.ref x :: S) h Q := wp_on (by decide +kernel : decode (ms_B 32) 52 = .ok (.aload_n 0, 1)) rfl (fun _ _ => rfl)
theorem s32_53 {sc : List Int32} {L : List (Option Value)} {a : Nat} {S : List Value} {h : List ms_C} {Q : Option Value → List ms_C → Prop} (hI : (ms_is h a 4).isSome = true) (hS : (S.map fun v => v.category).sum ≤ 8) : WP sc 32 53 L (.ref a :: S) h Q ↔ WP sc 33 0 [some (.ref a), none] [] h (fun r h1 => WP sc 32 56 L (r.toList ++ S) h1 Q) := wp_virt' (vs := [.ref a]) hI (by decide +kernel : decode (ms_B 32) 53 = .ok (.invokevirtual 82, 3)) rfl rfl rfl rfl (by decide) (by decide) hS (by simp [ms_args, ms_L, ms_Ll]) rfl
theorem s32_56 {sc : List Int32} {L : List (Option Value)} {a : Nat} {x0 : Int32} {x1 : Int32} {S : List Value} {h : List ms_C} {Q : Option Value → List ms_C → Prop} (hI : (ms_is h a 4).isSome = true) (hS : (S.map fun v => v.category).sum ≤ 8) : WP sc 32 56 L (.int x1 :: .int x0 :: .ref a :: S) h Q ↔ WP sc 35 0 [some (.ref a), some (.int x0), some (.int x1)] [] h (fun r h1 => WP sc 32 59 L (r.toList ++ S) h1 Q) := wp_virt' (vs := [.ref a, .int x0, .int x1]) hI (by decide +kernel : decode (ms_B 32) 56 = .ok (.invokevirtual 85, 3)) rfl rfl rfl rfl (by decide) (by decide) hS (by simp [ms_args, ms_L, ms_Ll]) rfl
theorem s32_59 {sc : List Int32} {l1 : Option Value} {x : Nat} {S : List Value} {h : List ms_C} {Q : Option Value → List ms_C → Prop} : WP sc 32 59 [some (.ref x), l1] S h Q ↔ WP sc 32 60 [some (.ref x), l1] (.ref x :: S) h Q := wp_on (by decide +kernel : decode (ms_B 32) 59 = .ok (.aload_n 0, 1)) rfl (fun _ _ => rfl)
theorem s32_60 {sc : List Int32} {L : List (Option Value)} {a : Nat} {S : List Value} {h : List ms_C} {Q : Option Value → List ms_C → Prop} : WP sc 32 60 L (.ref a :: S) h Q ↔ wX (ms_get h a 4 3) (fun v => WP sc 32 63 L (v :: S) h Q) := wp_getf (by decide +kernel : decode (ms_B 32) 60 = .ok (.getfield 21, 3)) rfl
theorem s32_63 {sc : List Int32} {l0 : Option Value} {x : Int32} {S : List Value} {h : List ms_C} {Q : Option Value → List ms_C → Prop} : WP sc 32 63 [l0, some (.int x)] S h Q ↔ WP sc 32 64 [l0, some (.int x)] (.int x :: S) h Q := wp_on (by decide +kernel : decode (ms_B 32) 63 = .ok (.iload_n 1, 1)) rfl (fun _ _ => rfl)
theorem s32_64 {sc : List Int32} {L : List (Option Value)} {S : List Value} {h : List ms_C} {Q : Option Value → List ms_C → Prop} : WP sc 32 64 L S h Q ↔ WP sc 32 65 L (.int (nI 0) :: S) h Q := wp_on (by decide +kernel : decode (ms_B 32) 64 = .ok (.iconst 0, 1)) rfl (fun _ _ => rfl)
theorem s32_65 {sc : List Int32} {L : List (Option Value)} {a : Nat} {i x : Int32} {S : List Value} {h : List ms_C} {Q : Option Value → List ms_C → Prop} : WP sc 32 65 L (.int x :: .int i :: .ref a :: S) h Q ↔ wX (ms_arr h a) (fun l => wX (ms_iat i l.length) (fun j => WP sc 32 66 L S (h.set a (ms_ia (l.set j x))) Q)) := wp_iast (by decide +kernel : decode (ms_B 32) 65 = .ok (.iastore, 1))
theorem s32_66 {sc : List Int32} {l1 : Option Value} {x : Nat} {S : List Value} {h : List ms_C} {Q : Option Value → List ms_C → Prop} : WP sc 32 66 [some (.ref x), l1] S h Q ↔ WP sc 32 67 [some (.ref x), l1] (.ref x :: S) h Q := wp_on (by decide +kernel : decode (ms_B 32) 66 = .ok (.aload_n 0, 1)) rfl (fun _ _ => rfl)
theorem s32_67 {sc : List Int32} {L : List (Option Value)} {a : Nat} {S : List Value} {h : List ms_C} {Q : Option Value → List ms_C → Prop} : WP sc 32 67 L (.ref a :: S) h Q ↔ wX (ms_get h a 4 4) (fun v => WP sc 32 70 L (v :: S) h Q) := wp_getf (by decide +kernel : decode (ms_B 32) 67 = .ok (.getfield 24, 3)) rfl
theorem s32_70 {sc : List Int32} {l0 : Option Value} {x : Int32} {S : List Value} {h : List ms_C} {Q : Option Value → List ms_C → Prop} : WP sc 32 70 [l0, some (.int x)] S h Q ↔ WP sc 32 71 [l0, some (.int x)] (.int x :: S) h Q := wp_on (by decide +kernel : decode (ms_B 32) 70 = .ok (.iload_n 1, 1)) rfl (fun _ _ => rfl)
theorem s32_71 {sc : List Int32} {L : List (Option Value)} {a : Nat} {x : Int32} {S : List Value} {h : List ms_C} {Q : Option Value → List ms_C → Prop} : WP sc 32 71 L (.int x :: .ref a :: S) h Q ↔ WP sc 32 72 L (.int x :: .ref a :: .int x :: .ref a :: S) h Q := wp_on (by decide +kernel : decode (ms_B 32) 71 = .ok (.dup2, 1)) rfl (fun _ _ => rfl)
theorem s32_72 {sc : List Int32} {L : List (Option Value)} {a : Nat} {i : Int32} {S : List Value} {h : List ms_C} {Q : Option Value → List ms_C → Prop} : WP sc 32 72 L (.int i :: .ref a :: S) h Q ↔ wX (ms_arr h a) (fun l => wX (ms_iat i l.length) (fun j => WP sc 32 73 L (.int (l.getD j 0) :: S) h Q)) := wp_iald (by decide +kernel : decode (ms_B 32) 72 = .ok (.iaload, 1))
theorem s32_73 {sc : List Int32} {L : List (Option Value)} {S : List Value} {h : List ms_C} {Q : Option Value → List ms_C → Prop} : WP sc 32 73 L S h Q ↔ WP sc 32 74 L (.int (nI 1) :: S) h Q := wp_on (by decide +kernel : decode (ms_B 32) 73 = .ok (.iconst 1, 1)) rfl (fun _ _ => rfl)
theorem s32_74 {sc : List Int32} {L : List (Option Value)} {a b : Int32} {S : List Value} {h : List ms_C} {Q : Option Value → List ms_C → Prop} : WP sc 32 74 L (.int b :: .int a :: S) h Q ↔ WP sc 32 75 L (.int (a + b) :: S) h Q := wp_on (by decide +kernel : decode (ms_B 32) 74 = .ok (.iadd, 1)) rfl (fun _ _ => rfl)
theorem s32_75 {sc : List Int32} {L : List (Option Value)} {a : Nat} {i x : Int32} {S : List Value} {h : List ms_C} {Q : Option Value → List ms_C → Prop} : WP sc 32 75 L (.int x :: .int i :: .ref a :: S) h Q ↔ wX (ms_arr h a) (fun l => wX (ms_iat i l.length) (fun j => WP sc 32 76 L S (h.set a (ms_ia (l.set j x))) Q)) := wp_iast (by decide +kernel : decode (ms_B 32) 75 = .ok (.iastore, 1))
theorem s32_76 {sc : List Int32} {l1 : Option Value} {x : Nat} {S : List Value} {h : List ms_C} {Q : Option Value → List ms_C → Prop} : WP sc 32 76 [some (.ref x), l1] S h Q ↔ WP sc 32 77 [some (.ref x), l1] (.ref x :: S) h Q := wp_on (by decide +kernel : decode (ms_B 32) 76 = .ok (.aload_n 0, 1)) rfl (fun _ _ => rfl)
theorem s32_77 {sc : List Int32} {l0 : Option Value} {x : Int32} {S : List Value} {h : List ms_C} {Q : Option Value → List ms_C → Prop} : WP sc 32 77 [l0, some (.int x)] S h Q ↔ WP sc 32 78 [l0, some (.int x)] (.int x :: S) h Q := wp_on (by decide +kernel : decode (ms_B 32) 77 = .ok (.iload_n 1, 1)) rfl (fun _ _ => rfl)
theorem s32_78 {sc : List Int32} {L : List (Option Value)} {a : Nat} {x : Int32} {S : List Value} {h : List ms_C} {Q : Option Value → List ms_C → Prop} : WP sc 32 78 L (.int x :: .ref a :: S) h Q ↔ wX (ms_is h a 4) (fun fs => 9 < fs.length ∧ WP sc 32 81 L S (h.set a (ms_obj 4 (fs.set 9 (.int x)))) Q) := wp_put (by decide +kernel : decode (ms_B 32) 78 = .ok (.putfield 30, 3)) rfl rfl (by decide) rfl rfl
theorem s32_81 {sc : List Int32} {L : List (Option Value)} {h : List ms_C} {Q : Option Value → List ms_C → Prop} : WP sc 32 81 L [] h Q ↔ Q none h := wp_ret (by decide +kernel : decode (ms_B 32) 81 = .ok (.return_, 1)) rfl
theorem s33_0 {sc : List Int32} {l1 : Option Value} {x : Nat} {S : List Value} {h : List ms_C} {Q : Option Value → List ms_C → Prop} : WP sc 33 0 [some (.ref x), l1] S h Q ↔ WP sc 33 1 [some (.ref x), l1] (.ref x :: S) h Q := wp_on (by decide +kernel : decode (ms_B 33) 0 = .ok (.aload_n 0, 1)) rfl (fun _ _ => rfl)
theorem s33_1 {sc : List Int32} {L : List (Option Value)} {a : Nat} {S : List Value} {h : List ms_C} {Q : Option Value → List ms_C → Prop} (hI : (ms_is h a 4).isSome = true) (hS : (S.map fun v => v.category).sum ≤ 8) : WP sc 33 1 L (.ref a :: S) h Q ↔ WP sc 34 0 [some (.ref a)] [] h (fun r h1 => WP sc 33 4 L (r.toList ++ S) h1 Q) := wp_virt' (vs := [.ref a]) hI (by decide +kernel : decode (ms_B 33) 1 = .ok (.invokevirtual 50, 3)) rfl rfl rfl rfl (by decide) (by decide) hS (by simp [ms_args, ms_L, ms_Ll]) rfl
theorem s33_4 {sc : List Int32} {l0 l1 : Option Value} {x : Int32} {S : List Value} {h : List ms_C} {Q : Option Value → List ms_C → Prop} (hn : wn_ok l0 = true) : WP sc 33 4 [l0, l1] (.int x :: S) h Q ↔ WP sc 33 5 [l0, some (.int x)] S h Q := wp_set (by decide +kernel : decode (ms_B 33) 4 = .ok (.istore_n 1, 1)) rfl (fun _ _ => rfl) (ms_set_ok (A := []) hn)
theorem s33_5 {sc : List Int32} {l1 : Option Value} {x : Nat} {S : List Value} {h : List ms_C} {Q : Option Value → List ms_C → Prop} : WP sc 33 5 [some (.ref x), l1] S h Q ↔ WP sc 33 6 [some (.ref x), l1] (.ref x :: S) h Q := wp_on (by decide +kernel : decode (ms_B 33) 5 = .ok (.aload_n 0, 1)) rfl (fun _ _ => rfl)
theorem s33_6 {sc : List Int32} {l0 : Option Value} {x : Int32} {S : List Value} {h : List ms_C} {Q : Option Value → List ms_C → Prop} : WP sc 33 6 [l0, some (.int x)] S h Q ↔ WP sc 33 7 [l0, some (.int x)] (.int x :: S) h Q := wp_on (by decide +kernel : decode (ms_B 33) 6 = .ok (.iload_n 1, 1)) rfl (fun _ _ => rfl)
theorem s33_7 {sc : List Int32} {L : List (Option Value)} {a : Nat} {x0 : Int32} {S : List Value} {h : List ms_C} {Q : Option Value → List ms_C → Prop} (hI : (ms_is h a 4).isSome = true) (hS : (S.map fun v => v.category).sum ≤ 8) : WP sc 33 7 L (.int x0 :: .ref a :: S) h Q ↔ WP sc 28 0 [some (.ref a), some (.int x0)] [] h (fun r h1 => WP sc 33 10 L (r.toList ++ S) h1 Q) := wp_virt' (vs := [.ref a, .int x0]) hI (by decide +kernel : decode (ms_B 33) 7 = .ok (.invokevirtual 54, 3)) rfl rfl rfl rfl (by decide) (by decide) hS (by simp [ms_args, ms_L, ms_Ll]) rfl
theorem s33_10 {sc : List Int32} {L : List (Option Value)} {a : Int32} {S : List Value} {h : List ms_C} {Q : Option Value → List ms_C → Prop} : WP sc 33 10 L (.int a :: S) h Q ↔ (if a = 0 then WP sc 33 22 L S h Q else WP sc 33 13 L S h Q) := wp_ifC (by decide +kernel : decode (ms_B 33) 10 = .ok (.ifCond .eq 12, 3)) rfl Iff.rfl
theorem s33_13 {sc : List Int32} {l1 : Option Value} {x : Nat} {S : List Value} {h : List ms_C} {Q : Option Value → List ms_C → Prop} : WP sc 33 13 [some (.ref x), l1] S h Q ↔ WP sc 33 14 [some (.ref x), l1] (.ref x :: S) h Q := wp_on (by decide +kernel : decode (ms_B 33) 13 = .ok (.aload_n 0, 1)) rfl (fun _ _ => rfl)
theorem s33_14 {sc : List Int32} {L : List (Option Value)} {a : Nat} {S : List Value} {h : List ms_C} {Q : Option Value → List ms_C → Prop} : WP sc 33 14 L (.ref a :: S) h Q ↔ wX (ms_get h a 4 5) (fun v => WP sc 33 17 L (v :: S) h Q) := wp_getf (by decide +kernel : decode (ms_B 33) 14 = .ok (.getfield 27, 3)) rfl
theorem s33_17 {sc : List Int32} {l0 : Option Value} {x : Int32} {S : List Value} {h : List ms_C} {Q : Option Value → List ms_C → Prop} : WP sc 33 17 [l0, some (.int x)] S h Q ↔ WP sc 33 18 [l0, some (.int x)] (.int x :: S) h Q := wp_on (by decide +kernel : decode (ms_B 33) 17 = .ok (.iload_n 1, 1)) rfl (fun _ _ => rfl)
theorem s33_18 {sc : List Int32} {L : List (Option Value)} {a : Nat} {i : Int32} {S : List Value} {h : List ms_C} {Q : Option Value → List ms_C → Prop} : WP sc 33 18 L (.int i :: .ref a :: S) h Q ↔ wX (ms_arr h a) (fun l => wX (ms_iat i l.length) (fun j => WP sc 33 19 L (.int (l.getD j 0) :: S) h Q)) := wp_iald (by decide +kernel : decode (ms_B 33) 18 = .ok (.iaload, 1))
theorem s33_19 {sc : List Int32} {L : List (Option Value)} {S : List Value} {h : List ms_C} {Q : Option Value → List ms_C → Prop} : WP sc 33 19 L S h Q ↔ WP sc 33 23 L S h Q := wp_goto (by decide +kernel : decode (ms_B 33) 19 = .ok (.goto 4, 3)) rfl
theorem s33_22 {sc : List Int32} {L : List (Option Value)} {S : List Value} {h : List ms_C} {Q : Option Value → List ms_C → Prop} : WP sc 33 22 L S h Q ↔ WP sc 33 23 L (.int (nI 0) :: S) h Q := wp_on (by decide +kernel : decode (ms_B 33) 22 = .ok (.iconst 0, 1)) rfl (fun _ _ => rfl)
theorem s33_23 {sc : List Int32} {L : List (Option Value)} {x : Int32} {h : List ms_C} {Q : Option Value → List ms_C → Prop} : WP sc 33 23 L [.int x] h Q ↔ Q (some (.int x)) h := wp_iret (by decide +kernel : decode (ms_B 33) 23 = .ok (.ireturn, 1)) rfl
theorem s34_0 {sc : List Int32} {x : Nat} {S : List Value} {h : List ms_C} {Q : Option Value → List ms_C → Prop} : WP sc 34 0 [some (.ref x)] S h Q ↔ WP sc 34 1 [some (.ref x)] (.ref x :: S) h Q := wp_on (by decide +kernel : decode (ms_B 34) 0 = .ok (.aload_n 0, 1)) rfl (fun _ _ => rfl)
theorem s34_1 {sc : List Int32} {L : List (Option Value)} {a : Nat} {S : List Value} {h : List ms_C} {Q : Option Value → List ms_C → Prop} : WP sc 34 1 L (.ref a :: S) h Q ↔ wX (ms_get h a 4 7) (fun v => WP sc 34 4 L (v :: S) h Q) := wp_getf (by decide +kernel : decode (ms_B 34) 1 = .ok (.getfield 37, 3)) rfl
theorem s34_4 {sc : List Int32} {L : List (Option Value)} {a : Int32} {S : List Value} {h : List ms_C} {Q : Option Value → List ms_C → Prop} : WP sc 34 4 L (.int a :: S) h Q ↔ (if a ≤ 0 then WP sc 34 19 L S h Q else WP sc 34 7 L S h Q) := wp_ifC (by decide +kernel : decode (ms_B 34) 4 = .ok (.ifCond .le 15, 3)) rfl Iff.rfl
theorem s34_7 {sc : List Int32} {x : Nat} {S : List Value} {h : List ms_C} {Q : Option Value → List ms_C → Prop} : WP sc 34 7 [some (.ref x)] S h Q ↔ WP sc 34 8 [some (.ref x)] (.ref x :: S) h Q := wp_on (by decide +kernel : decode (ms_B 34) 7 = .ok (.aload_n 0, 1)) rfl (fun _ _ => rfl)
theorem s34_8 {sc : List Int32} {L : List (Option Value)} {a : Nat} {S : List Value} {h : List ms_C} {Q : Option Value → List ms_C → Prop} : WP sc 34 8 L (.ref a :: S) h Q ↔ wX (ms_get h a 4 8) (fun v => WP sc 34 11 L (v :: S) h Q) := wp_getf (by decide +kernel : decode (ms_B 34) 8 = .ok (.getfield 40, 3)) rfl
theorem s34_11 {sc : List Int32} {x : Nat} {S : List Value} {h : List ms_C} {Q : Option Value → List ms_C → Prop} : WP sc 34 11 [some (.ref x)] S h Q ↔ WP sc 34 12 [some (.ref x)] (.ref x :: S) h Q := wp_on (by decide +kernel : decode (ms_B 34) 11 = .ok (.aload_n 0, 1)) rfl (fun _ _ => rfl)
theorem s34_12 {sc : List Int32} {L : List (Option Value)} {a : Nat} {S : List Value} {h : List ms_C} {Q : Option Value → List ms_C → Prop} : WP sc 34 12 L (.ref a :: S) h Q ↔ wX (ms_get h a 4 7) (fun v => WP sc 34 15 L (v :: S) h Q) := wp_getf (by decide +kernel : decode (ms_B 34) 12 = .ok (.getfield 37, 3)) rfl
theorem s34_15 {sc : List Int32} {L : List (Option Value)} {a b : Int32} {S : List Value} {h : List ms_C} {Q : Option Value → List ms_C → Prop} (hb : ¬ b = 0) : WP sc 34 15 L (.int b :: .int a :: S) h Q ↔ WP sc 34 16 L (.int (a - a / b * b) :: S) h Q := wp_rem (by decide +kernel : decode (ms_B 34) 15 = .ok (.irem, 1)) hb
theorem s34_16 {sc : List Int32} {L : List (Option Value)} {S : List Value} {h : List ms_C} {Q : Option Value → List ms_C → Prop} : WP sc 34 16 L S h Q ↔ WP sc 34 20 L S h Q := wp_goto (by decide +kernel : decode (ms_B 34) 16 = .ok (.goto 4, 3)) rfl
theorem s34_19 {sc : List Int32} {L : List (Option Value)} {S : List Value} {h : List ms_C} {Q : Option Value → List ms_C → Prop} : WP sc 34 19 L S h Q ↔ WP sc 34 20 L (.int (nI 0) :: S) h Q := wp_on (by decide +kernel : decode (ms_B 34) 19 = .ok (.iconst 0, 1)) rfl (fun _ _ => rfl)
theorem s34_20 {sc : List Int32} {L : List (Option Value)} {x : Int32} {h : List ms_C} {Q : Option Value → List ms_C → Prop} : WP sc 34 20 L [.int x] h Q ↔ Q (some (.int x)) h := wp_iret (by decide +kernel : decode (ms_B 34) 20 = .ok (.ireturn, 1)) rfl
theorem s35_0 {sc : List Int32} {l1 l2 : Option Value} {x : Nat} {S : List Value} {h : List ms_C} {Q : Option Value → List ms_C → Prop} : WP sc 35 0 [some (.ref x), l1, l2] S h Q ↔ WP sc 35 1 [some (.ref x), l1, l2] (.ref x :: S) h Q := wp_on (by decide +kernel : decode (ms_B 35) 0 = .ok (.aload_n 0, 1)) rfl (fun _ _ => rfl)
theorem s35_1 {sc : List Int32} {L : List (Option Value)} {a : Nat} {S : List Value} {h : List ms_C} {Q : Option Value → List ms_C → Prop} : WP sc 35 1 L (.ref a :: S) h Q ↔ wX (ms_get h a 4 1) (fun v => WP sc 35 4 L (v :: S) h Q) := wp_getf (by decide +kernel : decode (ms_B 35) 1 = .ok (.getfield 15, 3)) rfl
theorem s35_4 {sc : List Int32} {l0 l2 : Option Value} {x : Int32} {S : List Value} {h : List ms_C} {Q : Option Value → List ms_C → Prop} : WP sc 35 4 [l0, some (.int x), l2] S h Q ↔ WP sc 35 5 [l0, some (.int x), l2] (.int x :: S) h Q := wp_on (by decide +kernel : decode (ms_B 35) 4 = .ok (.iload_n 1, 1)) rfl (fun _ _ => rfl)
theorem s35_5 {sc : List Int32} {l1 l2 : Option Value} {x : Nat} {S : List Value} {h : List ms_C} {Q : Option Value → List ms_C → Prop} : WP sc 35 5 [some (.ref x), l1, l2] S h Q ↔ WP sc 35 6 [some (.ref x), l1, l2] (.ref x :: S) h Q := wp_on (by decide +kernel : decode (ms_B 35) 5 = .ok (.aload_n 0, 1)) rfl (fun _ _ => rfl)
theorem s35_6 {sc : List Int32} {L : List (Option Value)} {a : Nat} {S : List Value} {h : List ms_C} {Q : Option Value → List ms_C → Prop} : WP sc 35 6 L (.ref a :: S) h Q ↔ wX (ms_get h a 4 1) (fun v => WP sc 35 9 L (v :: S) h Q) := wp_getf (by decide +kernel : decode (ms_B 35) 6 = .ok (.getfield 15, 3)) rfl
theorem s35_9 {sc : List Int32} {l0 l2 : Option Value} {x : Int32} {S : List Value} {h : List ms_C} {Q : Option Value → List ms_C → Prop} : WP sc 35 9 [l0, some (.int x), l2] S h Q ↔ WP sc 35 10 [l0, some (.int x), l2] (.int x :: S) h Q := wp_on (by decide +kernel : decode (ms_B 35) 9 = .ok (.iload_n 1, 1)) rfl (fun _ _ => rfl)
theorem s35_10 {sc : List Int32} {L : List (Option Value)} {a : Nat} {i : Int32} {S : List Value} {h : List ms_C} {Q : Option Value → List ms_C → Prop} : WP sc 35 10 L (.int i :: .ref a :: S) h Q ↔ wX (ms_arr h a) (fun l => wX (ms_iat i l.length) (fun j => WP sc 35 11 L (.int (l.getD j 0) :: S) h Q)) := wp_iald (by decide +kernel : decode (ms_B 35) 10 = .ok (.iaload, 1))
theorem s35_11 {sc : List Int32} {l0 l1 : Option Value} {x : Int32} {S : List Value} {h : List ms_C} {Q : Option Value → List ms_C → Prop} : WP sc 35 11 [l0, l1, some (.int x)] S h Q ↔ WP sc 35 12 [l0, l1, some (.int x)] (.int x :: S) h Q := wp_on (by decide +kernel : decode (ms_B 35) 11 = .ok (.iload_n 2, 1)) rfl (fun _ _ => rfl)
theorem s35_12 {sc : List Int32} {L : List (Option Value)} {a b : Int32} {S : List Value} {h : List ms_C} {Q : Option Value → List ms_C → Prop} : WP sc 35 12 L (.int b :: .int a :: S) h Q ↔ WP sc 35 13 L (.int (a + b) :: S) h Q := wp_on (by decide +kernel : decode (ms_B 35) 12 = .ok (.iadd, 1)) rfl (fun _ _ => rfl)
theorem s35_13 {sc : List Int32} {L : List (Option Value)} {S : List Value} {h : List ms_C} {Q : Option Value → List ms_C → Prop} : WP sc 35 13 L S h Q ↔ WP sc 35 16 L (.int (nI 999) :: S) h Q := wp_on (by decide +kernel : decode (ms_B 35) 13 = .ok (.sipush 999, 3)) rfl (fun _ _ => rfl)
theorem s35_16 {sc : List Int32} {L : List (Option Value)} {a b : Int32} {S : List Value} {h : List ms_C} {Q : Option Value → List ms_C → Prop} (hS : (S.map fun v => v.category).sum ≤ 8) : WP sc 35 16 L (.int b :: .int a :: S) h Q ↔ WP sc 35 19 L (.int (if b < a then b else a) :: S) h Q := wp_min (by decide +kernel : decode (ms_B 35) 16 = .ok (.invokestatic 89, 3)) rfl (by decide) (by have h9 : ms_W 35 = 21 := rfl; omega)
theorem s35_19 {sc : List Int32} {L : List (Option Value)} {a : Nat} {i x : Int32} {S : List Value} {h : List ms_C} {Q : Option Value → List ms_C → Prop} : WP sc 35 19 L (.int x :: .int i :: .ref a :: S) h Q ↔ wX (ms_arr h a) (fun l => wX (ms_iat i l.length) (fun j => WP sc 35 20 L S (h.set a (ms_ia (l.set j x))) Q)) := wp_iast (by decide +kernel : decode (ms_B 35) 19 = .ok (.iastore, 1))
theorem s35_20 {sc : List Int32} {L : List (Option Value)} {h : List ms_C} {Q : Option Value → List ms_C → Prop} : WP sc 35 20 L [] h Q ↔ Q none h := wp_ret (by decide +kernel : decode (ms_B 35) 20 = .ok (.return_, 1)) rfl
theorem s36_0 {sc : List Int32} {l0 l2 l3 : Option Value} {x : Int32} {S : List Value} {h : List ms_C} {Q : Option Value → List ms_C → Prop} : WP sc 36 0 [l0, some (.int x), l2, l3] S h Q ↔ WP sc 36 1 [l0, some (.int x), l2, l3] (.int x :: S) h Q := wp_on (by decide +kernel : decode (ms_B 36) 0 = .ok (.iload_n 1, 1)) rfl (fun _ _ => rfl)
theorem s36_1 {sc : List Int32} {l0 l1 l3 : Option Value} {x : Int32} {S : List Value} {h : List ms_C} {Q : Option Value → List ms_C → Prop} : WP sc 36 1 [l0, l1, some (.int x), l3] S h Q ↔ WP sc 36 2 [l0, l1, some (.int x), l3] (.int x :: S) h Q := wp_on (by decide +kernel : decode (ms_B 36) 1 = .ok (.iload_n 2, 1)) rfl (fun _ _ => rfl)
theorem s36_2 {sc : List Int32} {L : List (Option Value)} {a b : Int32} {S : List Value} {h : List ms_C} {Q : Option Value → List ms_C → Prop} : WP sc 36 2 L (.int b :: .int a :: S) h Q ↔ (if a = b then WP sc 36 31 L S h Q else WP sc 36 5 L S h Q) := wp_ifI (by decide +kernel : decode (ms_B 36) 2 = .ok (.if_icmp .eq 29, 3)) rfl Iff.rfl
theorem s36_5 {sc : List Int32} {l1 l2 l3 : Option Value} {x : Nat} {S : List Value} {h : List ms_C} {Q : Option Value → List ms_C → Prop} : WP sc 36 5 [some (.ref x), l1, l2, l3] S h Q ↔ WP sc 36 6 [some (.ref x), l1, l2, l3] (.ref x :: S) h Q := wp_on (by decide +kernel : decode (ms_B 36) 5 = .ok (.aload_n 0, 1)) rfl (fun _ _ => rfl)
theorem s36_6 {sc : List Int32} {L : List (Option Value)} {a : Nat} {S : List Value} {h : List ms_C} {Q : Option Value → List ms_C → Prop} : WP sc 36 6 L (.ref a :: S) h Q ↔ wX (ms_get h a 4 1) (fun v => WP sc 36 9 L (v :: S) h Q) := wp_getf (by decide +kernel : decode (ms_B 36) 6 = .ok (.getfield 15, 3)) rfl
theorem s36_9 {sc : List Int32} {l0 l2 l3 : Option Value} {x : Int32} {S : List Value} {h : List ms_C} {Q : Option Value → List ms_C → Prop} : WP sc 36 9 [l0, some (.int x), l2, l3] S h Q ↔ WP sc 36 10 [l0, some (.int x), l2, l3] (.int x :: S) h Q := wp_on (by decide +kernel : decode (ms_B 36) 9 = .ok (.iload_n 1, 1)) rfl (fun _ _ => rfl)
theorem s36_10 {sc : List Int32} {L : List (Option Value)} {a : Nat} {i : Int32} {S : List Value} {h : List ms_C} {Q : Option Value → List ms_C → Prop} : WP sc 36 10 L (.int i :: .ref a :: S) h Q ↔ wX (ms_arr h a) (fun l => wX (ms_iat i l.length) (fun j => WP sc 36 11 L (.int (l.getD j 0) :: S) h Q)) := wp_iald (by decide +kernel : decode (ms_B 36) 10 = .ok (.iaload, 1))
theorem s36_11 {sc : List Int32} {l0 l1 l2 : Option Value} {x : Int32} {S : List Value} {h : List ms_C} {Q : Option Value → List ms_C → Prop} : WP sc 36 11 [l0, l1, l2, some (.int x)] S h Q ↔ WP sc 36 12 [l0, l1, l2, some (.int x)] (.int x :: S) h Q := wp_on (by decide +kernel : decode (ms_B 36) 11 = .ok (.iload_n 3, 1)) rfl (fun _ _ => rfl)
theorem s36_12 {sc : List Int32} {L : List (Option Value)} {a b : Int32} {S : List Value} {h : List ms_C} {Q : Option Value → List ms_C → Prop} : WP sc 36 12 L (.int b :: .int a :: S) h Q ↔ (if a < b then WP sc 36 31 L S h Q else WP sc 36 15 L S h Q) := wp_ifI (by decide +kernel : decode (ms_B 36) 12 = .ok (.if_icmp .lt 19, 3)) rfl Iff.rfl
theorem s36_15 {sc : List Int32} {l1 l2 l3 : Option Value} {x : Nat} {S : List Value} {h : List ms_C} {Q : Option Value → List ms_C → Prop} : WP sc 36 15 [some (.ref x), l1, l2, l3] S h Q ↔ WP sc 36 16 [some (.ref x), l1, l2, l3] (.ref x :: S) h Q := wp_on (by decide +kernel : decode (ms_B 36) 15 = .ok (.aload_n 0, 1)) rfl (fun _ _ => rfl)
theorem s36_16 {sc : List Int32} {L : List (Option Value)} {a : Nat} {S : List Value} {h : List ms_C} {Q : Option Value → List ms_C → Prop} : WP sc 36 16 L (.ref a :: S) h Q ↔ wX (ms_get h a 4 1) (fun v => WP sc 36 19 L (v :: S) h Q) := wp_getf (by decide +kernel : decode (ms_B 36) 16 = .ok (.getfield 15, 3)) rfl
theorem s36_19 {sc : List Int32} {l0 l1 l3 : Option Value} {x : Int32} {S : List Value} {h : List ms_C} {Q : Option Value → List ms_C → Prop} : WP sc 36 19 [l0, l1, some (.int x), l3] S h Q ↔ WP sc 36 20 [l0, l1, some (.int x), l3] (.int x :: S) h Q := wp_on (by decide +kernel : decode (ms_B 36) 19 = .ok (.iload_n 2, 1)) rfl (fun _ _ => rfl)
theorem s36_20 {sc : List Int32} {L : List (Option Value)} {a : Nat} {i : Int32} {S : List Value} {h : List ms_C} {Q : Option Value → List ms_C → Prop} : WP sc 36 20 L (.int i :: .ref a :: S) h Q ↔ wX (ms_arr h a) (fun l => wX (ms_iat i l.length) (fun j => WP sc 36 21 L (.int (l.getD j 0) :: S) h Q)) := wp_iald (by decide +kernel : decode (ms_B 36) 20 = .ok (.iaload, 1))
theorem s36_21 {sc : List Int32} {L : List (Option Value)} {S : List Value} {h : List ms_C} {Q : Option Value → List ms_C → Prop} : WP sc 36 21 L S h Q ↔ WP sc 36 24 L (.int (nI 960) :: S) h Q := wp_on (by decide +kernel : decode (ms_B 36) 21 = .ok (.sipush 960, 3)) rfl (fun _ _ => rfl)
theorem s36_24 {sc : List Int32} {L : List (Option Value)} {a b : Int32} {S : List Value} {h : List ms_C} {Q : Option Value → List ms_C → Prop} : WP sc 36 24 L (.int b :: .int a :: S) h Q ↔ (if b ≤ a then WP sc 36 31 L S h Q else WP sc 36 27 L S h Q) := wp_ifI (by decide +kernel : decode (ms_B 36) 24 = .ok (.if_icmp .ge 7, 3)) rfl Iff.rfl
theorem s36_27 {sc : List Int32} {L : List (Option Value)} {S : List Value} {h : List ms_C} {Q : Option Value → List ms_C → Prop} : WP sc 36 27 L S h Q ↔ WP sc 36 28 L (.int (nI 1) :: S) h Q := wp_on (by decide +kernel : decode (ms_B 36) 27 = .ok (.iconst 1, 1)) rfl (fun _ _ => rfl)
theorem s36_28 {sc : List Int32} {L : List (Option Value)} {S : List Value} {h : List ms_C} {Q : Option Value → List ms_C → Prop} : WP sc 36 28 L S h Q ↔ WP sc 36 32 L S h Q := wp_goto (by decide +kernel : decode (ms_B 36) 28 = .ok (.goto 4, 3)) rfl
theorem s36_31 {sc : List Int32} {L : List (Option Value)} {S : List Value} {h : List ms_C} {Q : Option Value → List ms_C → Prop} : WP sc 36 31 L S h Q ↔ WP sc 36 32 L (.int (nI 0) :: S) h Q := wp_on (by decide +kernel : decode (ms_B 36) 31 = .ok (.iconst 0, 1)) rfl (fun _ _ => rfl)
theorem s36_32 {sc : List Int32} {L : List (Option Value)} {x : Int32} {h : List ms_C} {Q : Option Value → List ms_C → Prop} : WP sc 36 32 L [.int x] h Q ↔ (x = 0 ∨ x = 1) ∧ Q (some (.int x)) h := wp_zret (by decide +kernel : decode (ms_B 36) 32 = .ok (.ireturn, 1)) rfl
theorem s37_0 {sc : List Int32} {l1 l2 l3 : Option Value} {x : Nat} {S : List Value} {h : List ms_C} {Q : Option Value → List ms_C → Prop} : WP sc 37 0 [some (.ref x), l1, l2, l3] S h Q ↔ WP sc 37 1 [some (.ref x), l1, l2, l3] (.ref x :: S) h Q := wp_on (by decide +kernel : decode (ms_B 37) 0 = .ok (.aload_n 0, 1)) rfl (fun _ _ => rfl)
theorem s37_1 {sc : List Int32} {L : List (Option Value)} {a : Nat} {S : List Value} {h : List ms_C} {Q : Option Value → List ms_C → Prop} : WP sc 37 1 L (.ref a :: S) h Q ↔ wX (ms_get h a 4 1) (fun v => WP sc 37 4 L (v :: S) h Q) := wp_getf (by decide +kernel : decode (ms_B 37) 1 = .ok (.getfield 15, 3)) rfl
theorem s37_4 {sc : List Int32} {l0 l2 l3 : Option Value} {x : Int32} {S : List Value} {h : List ms_C} {Q : Option Value → List ms_C → Prop} : WP sc 37 4 [l0, some (.int x), l2, l3] S h Q ↔ WP sc 37 5 [l0, some (.int x), l2, l3] (.int x :: S) h Q := wp_on (by decide +kernel : decode (ms_B 37) 4 = .ok (.iload_n 1, 1)) rfl (fun _ _ => rfl)
theorem s37_5 {sc : List Int32} {L : List (Option Value)} {a : Nat} {x : Int32} {S : List Value} {h : List ms_C} {Q : Option Value → List ms_C → Prop} : WP sc 37 5 L (.int x :: .ref a :: S) h Q ↔ WP sc 37 6 L (.int x :: .ref a :: .int x :: .ref a :: S) h Q := wp_on (by decide +kernel : decode (ms_B 37) 5 = .ok (.dup2, 1)) rfl (fun _ _ => rfl)
theorem s37_6 {sc : List Int32} {L : List (Option Value)} {a : Nat} {i : Int32} {S : List Value} {h : List ms_C} {Q : Option Value → List ms_C → Prop} : WP sc 37 6 L (.int i :: .ref a :: S) h Q ↔ wX (ms_arr h a) (fun l => wX (ms_iat i l.length) (fun j => WP sc 37 7 L (.int (l.getD j 0) :: S) h Q)) := wp_iald (by decide +kernel : decode (ms_B 37) 6 = .ok (.iaload, 1))
theorem s37_7 {sc : List Int32} {l0 l1 l2 : Option Value} {x : Int32} {S : List Value} {h : List ms_C} {Q : Option Value → List ms_C → Prop} : WP sc 37 7 [l0, l1, l2, some (.int x)] S h Q ↔ WP sc 37 8 [l0, l1, l2, some (.int x)] (.int x :: S) h Q := wp_on (by decide +kernel : decode (ms_B 37) 7 = .ok (.iload_n 3, 1)) rfl (fun _ _ => rfl)
theorem s37_8 {sc : List Int32} {L : List (Option Value)} {a b : Int32} {S : List Value} {h : List ms_C} {Q : Option Value → List ms_C → Prop} : WP sc 37 8 L (.int b :: .int a :: S) h Q ↔ WP sc 37 9 L (.int (a - b) :: S) h Q := wp_on (by decide +kernel : decode (ms_B 37) 8 = .ok (.isub, 1)) rfl (fun _ _ => rfl)
theorem s37_9 {sc : List Int32} {L : List (Option Value)} {a : Nat} {i x : Int32} {S : List Value} {h : List ms_C} {Q : Option Value → List ms_C → Prop} : WP sc 37 9 L (.int x :: .int i :: .ref a :: S) h Q ↔ wX (ms_arr h a) (fun l => wX (ms_iat i l.length) (fun j => WP sc 37 10 L S (h.set a (ms_ia (l.set j x))) Q)) := wp_iast (by decide +kernel : decode (ms_B 37) 9 = .ok (.iastore, 1))
theorem s37_10 {sc : List Int32} {l1 l2 l3 : Option Value} {x : Nat} {S : List Value} {h : List ms_C} {Q : Option Value → List ms_C → Prop} : WP sc 37 10 [some (.ref x), l1, l2, l3] S h Q ↔ WP sc 37 11 [some (.ref x), l1, l2, l3] (.ref x :: S) h Q := wp_on (by decide +kernel : decode (ms_B 37) 10 = .ok (.aload_n 0, 1)) rfl (fun _ _ => rfl)
theorem s37_11 {sc : List Int32} {L : List (Option Value)} {a : Nat} {S : List Value} {h : List ms_C} {Q : Option Value → List ms_C → Prop} : WP sc 37 11 L (.ref a :: S) h Q ↔ wX (ms_get h a 4 1) (fun v => WP sc 37 14 L (v :: S) h Q) := wp_getf (by decide +kernel : decode (ms_B 37) 11 = .ok (.getfield 15, 3)) rfl
theorem s37_14 {sc : List Int32} {l0 l1 l3 : Option Value} {x : Int32} {S : List Value} {h : List ms_C} {Q : Option Value → List ms_C → Prop} : WP sc 37 14 [l0, l1, some (.int x), l3] S h Q ↔ WP sc 37 15 [l0, l1, some (.int x), l3] (.int x :: S) h Q := wp_on (by decide +kernel : decode (ms_B 37) 14 = .ok (.iload_n 2, 1)) rfl (fun _ _ => rfl)
theorem s37_15 {sc : List Int32} {L : List (Option Value)} {a : Nat} {x : Int32} {S : List Value} {h : List ms_C} {Q : Option Value → List ms_C → Prop} : WP sc 37 15 L (.int x :: .ref a :: S) h Q ↔ WP sc 37 16 L (.int x :: .ref a :: .int x :: .ref a :: S) h Q := wp_on (by decide +kernel : decode (ms_B 37) 15 = .ok (.dup2, 1)) rfl (fun _ _ => rfl)
theorem s37_16 {sc : List Int32} {L : List (Option Value)} {a : Nat} {i : Int32} {S : List Value} {h : List ms_C} {Q : Option Value → List ms_C → Prop} : WP sc 37 16 L (.int i :: .ref a :: S) h Q ↔ wX (ms_arr h a) (fun l => wX (ms_iat i l.length) (fun j => WP sc 37 17 L (.int (l.getD j 0) :: S) h Q)) := wp_iald (by decide +kernel : decode (ms_B 37) 16 = .ok (.iaload, 1))
theorem s37_17 {sc : List Int32} {l0 l1 l2 : Option Value} {x : Int32} {S : List Value} {h : List ms_C} {Q : Option Value → List ms_C → Prop} : WP sc 37 17 [l0, l1, l2, some (.int x)] S h Q ↔ WP sc 37 18 [l0, l1, l2, some (.int x)] (.int x :: S) h Q := wp_on (by decide +kernel : decode (ms_B 37) 17 = .ok (.iload_n 3, 1)) rfl (fun _ _ => rfl)
theorem s37_18 {sc : List Int32} {L : List (Option Value)} {a b : Int32} {S : List Value} {h : List ms_C} {Q : Option Value → List ms_C → Prop} : WP sc 37 18 L (.int b :: .int a :: S) h Q ↔ WP sc 37 19 L (.int (a + b) :: S) h Q := wp_on (by decide +kernel : decode (ms_B 37) 18 = .ok (.iadd, 1)) rfl (fun _ _ => rfl)
theorem s37_19 {sc : List Int32} {L : List (Option Value)} {a : Nat} {i x : Int32} {S : List Value} {h : List ms_C} {Q : Option Value → List ms_C → Prop} : WP sc 37 19 L (.int x :: .int i :: .ref a :: S) h Q ↔ wX (ms_arr h a) (fun l => wX (ms_iat i l.length) (fun j => WP sc 37 20 L S (h.set a (ms_ia (l.set j x))) Q)) := wp_iast (by decide +kernel : decode (ms_B 37) 19 = .ok (.iastore, 1))
theorem s37_20 {sc : List Int32} {L : List (Option Value)} {h : List ms_C} {Q : Option Value → List ms_C → Prop} : WP sc 37 20 L [] h Q ↔ Q none h := wp_ret (by decide +kernel : decode (ms_B 37) 20 = .ok (.return_, 1)) rfl
theorem s38_0 {sc : List Int32} {l1 l2 : Option Value} {x : Nat} {S : List Value} {h : List ms_C} {Q : Option Value → List ms_C → Prop} : WP sc 38 0 [some (.ref x), l1, l2] S h Q ↔ WP sc 38 1 [some (.ref x), l1, l2] (.ref x :: S) h Q := wp_on (by decide +kernel : decode (ms_B 38) 0 = .ok (.aload_n 0, 1)) rfl (fun _ _ => rfl)
theorem s38_1 {sc : List Int32} {L : List (Option Value)} {a : Nat} {S : List Value} {h : List ms_C} {Q : Option Value → List ms_C → Prop} : WP sc 38 1 L (.ref a :: S) h Q ↔ wX (ms_get h a 4 1) (fun v => WP sc 38 4 L (v :: S) h Q) := wp_getf (by decide +kernel : decode (ms_B 38) 1 = .ok (.getfield 15, 3)) rfl
theorem s38_4 {sc : List Int32} {L : List (Option Value)} {S : List Value} {h : List ms_C} {Q : Option Value → List ms_C → Prop} : WP sc 38 4 L S h Q ↔ WP sc 38 5 L (.int (nI 0) :: S) h Q := wp_on (by decide +kernel : decode (ms_B 38) 4 = .ok (.iconst 0, 1)) rfl (fun _ _ => rfl)
theorem s38_5 {sc : List Int32} {L : List (Option Value)} {a : Nat} {i : Int32} {S : List Value} {h : List ms_C} {Q : Option Value → List ms_C → Prop} : WP sc 38 5 L (.int i :: .ref a :: S) h Q ↔ wX (ms_arr h a) (fun l => wX (ms_iat i l.length) (fun j => WP sc 38 6 L (.int (l.getD j 0) :: S) h Q)) := wp_iald (by decide +kernel : decode (ms_B 38) 5 = .ok (.iaload, 1))
theorem s38_6 {sc : List Int32} {l0 l1 l2 : Option Value} {x : Int32} {S : List Value} {h : List ms_C} {Q : Option Value → List ms_C → Prop} (hn : wn_ok l0 = true) : WP sc 38 6 [l0, l1, l2] (.int x :: S) h Q ↔ WP sc 38 7 [l0, some (.int x), l2] S h Q := wp_set (by decide +kernel : decode (ms_B 38) 6 = .ok (.istore_n 1, 1)) rfl (fun _ _ => rfl) (ms_set_ok (A := []) hn)
theorem s38_7 {sc : List Int32} {L : List (Option Value)} {S : List Value} {h : List ms_C} {Q : Option Value → List ms_C → Prop} : WP sc 38 7 L S h Q ↔ WP sc 38 8 L (.int (nI 1) :: S) h Q := wp_on (by decide +kernel : decode (ms_B 38) 7 = .ok (.iconst 1, 1)) rfl (fun _ _ => rfl)
theorem s38_8 {sc : List Int32} {l0 l1 l2 : Option Value} {x : Int32} {S : List Value} {h : List ms_C} {Q : Option Value → List ms_C → Prop} (hn : wn_ok l1 = true) : WP sc 38 8 [l0, l1, l2] (.int x :: S) h Q ↔ WP sc 38 9 [l0, l1, some (.int x)] S h Q := wp_set (by decide +kernel : decode (ms_B 38) 8 = .ok (.istore_n 2, 1)) rfl (fun _ _ => rfl) (ms_set_ok (A := [l0]) hn)
theorem s38_9 {sc : List Int32} {l0 l1 : Option Value} {x : Int32} {S : List Value} {h : List ms_C} {Q : Option Value → List ms_C → Prop} : WP sc 38 9 [l0, l1, some (.int x)] S h Q ↔ WP sc 38 10 [l0, l1, some (.int x)] (.int x :: S) h Q := wp_on (by decide +kernel : decode (ms_B 38) 9 = .ok (.iload_n 2, 1)) rfl (fun _ _ => rfl)
theorem s38_10 {sc : List Int32} {l1 l2 : Option Value} {x : Nat} {S : List Value} {h : List ms_C} {Q : Option Value → List ms_C → Prop} : WP sc 38 10 [some (.ref x), l1, l2] S h Q ↔ WP sc 38 11 [some (.ref x), l1, l2] (.ref x :: S) h Q := wp_on (by decide +kernel : decode (ms_B 38) 10 = .ok (.aload_n 0, 1)) rfl (fun _ _ => rfl)
theorem s38_11 {sc : List Int32} {L : List (Option Value)} {a : Nat} {S : List Value} {h : List ms_C} {Q : Option Value → List ms_C → Prop} : WP sc 38 11 L (.ref a :: S) h Q ↔ wX (ms_get h a 4 6) (fun v => WP sc 38 14 L (v :: S) h Q) := wp_getf (by decide +kernel : decode (ms_B 38) 11 = .ok (.getfield 34, 3)) rfl
theorem s38_14 {sc : List Int32} {L : List (Option Value)} {a b : Int32} {S : List Value} {h : List ms_C} {Q : Option Value → List ms_C → Prop} : WP sc 38 14 L (.int b :: .int a :: S) h Q ↔ (if b ≤ a then WP sc 38 34 L S h Q else WP sc 38 17 L S h Q) := wp_ifI (by decide +kernel : decode (ms_B 38) 14 = .ok (.if_icmp .ge 20, 3)) rfl Iff.rfl
theorem s38_17 {sc : List Int32} {l0 l2 : Option Value} {x : Int32} {S : List Value} {h : List ms_C} {Q : Option Value → List ms_C → Prop} : WP sc 38 17 [l0, some (.int x), l2] S h Q ↔ WP sc 38 18 [l0, some (.int x), l2] (.int x :: S) h Q := wp_on (by decide +kernel : decode (ms_B 38) 17 = .ok (.iload_n 1, 1)) rfl (fun _ _ => rfl)
theorem s38_18 {sc : List Int32} {l1 l2 : Option Value} {x : Nat} {S : List Value} {h : List ms_C} {Q : Option Value → List ms_C → Prop} : WP sc 38 18 [some (.ref x), l1, l2] S h Q ↔ WP sc 38 19 [some (.ref x), l1, l2] (.ref x :: S) h Q := wp_on (by decide +kernel : decode (ms_B 38) 18 = .ok (.aload_n 0, 1)) rfl (fun _ _ => rfl)
theorem s38_19 {sc : List Int32} {L : List (Option Value)} {a : Nat} {S : List Value} {h : List ms_C} {Q : Option Value → List ms_C → Prop} : WP sc 38 19 L (.ref a :: S) h Q ↔ wX (ms_get h a 4 1) (fun v => WP sc 38 22 L (v :: S) h Q) := wp_getf (by decide +kernel : decode (ms_B 38) 19 = .ok (.getfield 15, 3)) rfl
theorem s38_22 {sc : List Int32} {l0 l1 : Option Value} {x : Int32} {S : List Value} {h : List ms_C} {Q : Option Value → List ms_C → Prop} : WP sc 38 22 [l0, l1, some (.int x)] S h Q ↔ WP sc 38 23 [l0, l1, some (.int x)] (.int x :: S) h Q := wp_on (by decide +kernel : decode (ms_B 38) 22 = .ok (.iload_n 2, 1)) rfl (fun _ _ => rfl)
theorem s38_23 {sc : List Int32} {L : List (Option Value)} {a : Nat} {i : Int32} {S : List Value} {h : List ms_C} {Q : Option Value → List ms_C → Prop} : WP sc 38 23 L (.int i :: .ref a :: S) h Q ↔ wX (ms_arr h a) (fun l => wX (ms_iat i l.length) (fun j => WP sc 38 24 L (.int (l.getD j 0) :: S) h Q)) := wp_iald (by decide +kernel : decode (ms_B 38) 23 = .ok (.iaload, 1))
theorem s38_24 {sc : List Int32} {L : List (Option Value)} {a b : Int32} {S : List Value} {h : List ms_C} {Q : Option Value → List ms_C → Prop} (hS : (S.map fun v => v.category).sum ≤ 8) : WP sc 38 24 L (.int b :: .int a :: S) h Q ↔ WP sc 38 27 L (.int (if a < b then b else a) :: S) h Q := wp_max (by decide +kernel : decode (ms_B 38) 24 = .ok (.invokestatic 58, 3)) rfl (by decide) (by have h9 : ms_W 38 = 21 := rfl; omega)
theorem s38_27 {sc : List Int32} {l0 l1 l2 : Option Value} {x : Int32} {S : List Value} {h : List ms_C} {Q : Option Value → List ms_C → Prop} (hn : wn_ok l0 = true) : WP sc 38 27 [l0, l1, l2] (.int x :: S) h Q ↔ WP sc 38 28 [l0, some (.int x), l2] S h Q := wp_set (by decide +kernel : decode (ms_B 38) 27 = .ok (.istore_n 1, 1)) rfl (fun _ _ => rfl) (ms_set_ok (A := []) hn)
theorem s38_28 {sc : List Int32} {l0 l1 : Option Value} {x : Int32} {S : List Value} {h : List ms_C} {Q : Option Value → List ms_C → Prop} (hn : wn_ok l1 = true) : WP sc 38 28 [l0, l1, some (.int x)] S h Q ↔ WP sc 38 31 [l0, l1, some (.int (x + (nI 1)))] S h Q := wp_set (by decide +kernel : decode (ms_B 38) 28 = .ok (.iinc 2 1, 3)) rfl (fun _ _ => rfl) (ms_set_ok (A := [l0]) hn)
theorem s38_31 {sc : List Int32} {L : List (Option Value)} {S : List Value} {h : List ms_C} {Q : Option Value → List ms_C → Prop} : WP sc 38 31 L S h Q ↔ WP sc 38 9 L S h Q := wp_goto (by decide +kernel : decode (ms_B 38) 31 = .ok (.goto (-22), 3)) rfl
theorem s38_34 {sc : List Int32} {l0 l2 : Option Value} {x : Int32} {S : List Value} {h : List ms_C} {Q : Option Value → List ms_C → Prop} : WP sc 38 34 [l0, some (.int x), l2] S h Q ↔ WP sc 38 35 [l0, some (.int x), l2] (.int x :: S) h Q := wp_on (by decide +kernel : decode (ms_B 38) 34 = .ok (.iload_n 1, 1)) rfl (fun _ _ => rfl)
theorem s38_35 {sc : List Int32} {L : List (Option Value)} {x : Int32} {h : List ms_C} {Q : Option Value → List ms_C → Prop} : WP sc 38 35 L [.int x] h Q ↔ Q (some (.int x)) h := wp_iret (by decide +kernel : decode (ms_B 38) 35 = .ok (.ireturn, 1)) rfl
theorem s39_0 {sc : List Int32} {l1 l2 : Option Value} {x : Nat} {S : List Value} {h : List ms_C} {Q : Option Value → List ms_C → Prop} : WP sc 39 0 [some (.ref x), l1, l2] S h Q ↔ WP sc 39 1 [some (.ref x), l1, l2] (.ref x :: S) h Q := wp_on (by decide +kernel : decode (ms_B 39) 0 = .ok (.aload_n 0, 1)) rfl (fun _ _ => rfl)
theorem s39_1 {sc : List Int32} {L : List (Option Value)} {a : Nat} {S : List Value} {h : List ms_C} {Q : Option Value → List ms_C → Prop} : WP sc 39 1 L (.ref a :: S) h Q ↔ wX (ms_get h a 4 1) (fun v => WP sc 39 4 L (v :: S) h Q) := wp_getf (by decide +kernel : decode (ms_B 39) 1 = .ok (.getfield 15, 3)) rfl
theorem s39_4 {sc : List Int32} {L : List (Option Value)} {S : List Value} {h : List ms_C} {Q : Option Value → List ms_C → Prop} : WP sc 39 4 L S h Q ↔ WP sc 39 5 L (.int (nI 0) :: S) h Q := wp_on (by decide +kernel : decode (ms_B 39) 4 = .ok (.iconst 0, 1)) rfl (fun _ _ => rfl)
theorem s39_5 {sc : List Int32} {L : List (Option Value)} {a : Nat} {i : Int32} {S : List Value} {h : List ms_C} {Q : Option Value → List ms_C → Prop} : WP sc 39 5 L (.int i :: .ref a :: S) h Q ↔ wX (ms_arr h a) (fun l => wX (ms_iat i l.length) (fun j => WP sc 39 6 L (.int (l.getD j 0) :: S) h Q)) := wp_iald (by decide +kernel : decode (ms_B 39) 5 = .ok (.iaload, 1))
theorem s39_6 {sc : List Int32} {l0 l1 l2 : Option Value} {x : Int32} {S : List Value} {h : List ms_C} {Q : Option Value → List ms_C → Prop} (hn : wn_ok l0 = true) : WP sc 39 6 [l0, l1, l2] (.int x :: S) h Q ↔ WP sc 39 7 [l0, some (.int x), l2] S h Q := wp_set (by decide +kernel : decode (ms_B 39) 6 = .ok (.istore_n 1, 1)) rfl (fun _ _ => rfl) (ms_set_ok (A := []) hn)
theorem s39_7 {sc : List Int32} {L : List (Option Value)} {S : List Value} {h : List ms_C} {Q : Option Value → List ms_C → Prop} : WP sc 39 7 L S h Q ↔ WP sc 39 8 L (.int (nI 1) :: S) h Q := wp_on (by decide +kernel : decode (ms_B 39) 7 = .ok (.iconst 1, 1)) rfl (fun _ _ => rfl)
theorem s39_8 {sc : List Int32} {l0 l1 l2 : Option Value} {x : Int32} {S : List Value} {h : List ms_C} {Q : Option Value → List ms_C → Prop} (hn : wn_ok l1 = true) : WP sc 39 8 [l0, l1, l2] (.int x :: S) h Q ↔ WP sc 39 9 [l0, l1, some (.int x)] S h Q := wp_set (by decide +kernel : decode (ms_B 39) 8 = .ok (.istore_n 2, 1)) rfl (fun _ _ => rfl) (ms_set_ok (A := [l0]) hn)
theorem s39_9 {sc : List Int32} {l0 l1 : Option Value} {x : Int32} {S : List Value} {h : List ms_C} {Q : Option Value → List ms_C → Prop} : WP sc 39 9 [l0, l1, some (.int x)] S h Q ↔ WP sc 39 10 [l0, l1, some (.int x)] (.int x :: S) h Q := wp_on (by decide +kernel : decode (ms_B 39) 9 = .ok (.iload_n 2, 1)) rfl (fun _ _ => rfl)
theorem s39_10 {sc : List Int32} {l1 l2 : Option Value} {x : Nat} {S : List Value} {h : List ms_C} {Q : Option Value → List ms_C → Prop} : WP sc 39 10 [some (.ref x), l1, l2] S h Q ↔ WP sc 39 11 [some (.ref x), l1, l2] (.ref x :: S) h Q := wp_on (by decide +kernel : decode (ms_B 39) 10 = .ok (.aload_n 0, 1)) rfl (fun _ _ => rfl)
theorem s39_11 {sc : List Int32} {L : List (Option Value)} {a : Nat} {S : List Value} {h : List ms_C} {Q : Option Value → List ms_C → Prop} : WP sc 39 11 L (.ref a :: S) h Q ↔ wX (ms_get h a 4 6) (fun v => WP sc 39 14 L (v :: S) h Q) := wp_getf (by decide +kernel : decode (ms_B 39) 11 = .ok (.getfield 34, 3)) rfl
theorem s39_14 {sc : List Int32} {L : List (Option Value)} {a b : Int32} {S : List Value} {h : List ms_C} {Q : Option Value → List ms_C → Prop} : WP sc 39 14 L (.int b :: .int a :: S) h Q ↔ (if b ≤ a then WP sc 39 34 L S h Q else WP sc 39 17 L S h Q) := wp_ifI (by decide +kernel : decode (ms_B 39) 14 = .ok (.if_icmp .ge 20, 3)) rfl Iff.rfl
theorem s39_17 {sc : List Int32} {l0 l2 : Option Value} {x : Int32} {S : List Value} {h : List ms_C} {Q : Option Value → List ms_C → Prop} : WP sc 39 17 [l0, some (.int x), l2] S h Q ↔ WP sc 39 18 [l0, some (.int x), l2] (.int x :: S) h Q := wp_on (by decide +kernel : decode (ms_B 39) 17 = .ok (.iload_n 1, 1)) rfl (fun _ _ => rfl)
theorem s39_18 {sc : List Int32} {l1 l2 : Option Value} {x : Nat} {S : List Value} {h : List ms_C} {Q : Option Value → List ms_C → Prop} : WP sc 39 18 [some (.ref x), l1, l2] S h Q ↔ WP sc 39 19 [some (.ref x), l1, l2] (.ref x :: S) h Q := wp_on (by decide +kernel : decode (ms_B 39) 18 = .ok (.aload_n 0, 1)) rfl (fun _ _ => rfl)
theorem s39_19 {sc : List Int32} {L : List (Option Value)} {a : Nat} {S : List Value} {h : List ms_C} {Q : Option Value → List ms_C → Prop} : WP sc 39 19 L (.ref a :: S) h Q ↔ wX (ms_get h a 4 1) (fun v => WP sc 39 22 L (v :: S) h Q) := wp_getf (by decide +kernel : decode (ms_B 39) 19 = .ok (.getfield 15, 3)) rfl
theorem s39_22 {sc : List Int32} {l0 l1 : Option Value} {x : Int32} {S : List Value} {h : List ms_C} {Q : Option Value → List ms_C → Prop} : WP sc 39 22 [l0, l1, some (.int x)] S h Q ↔ WP sc 39 23 [l0, l1, some (.int x)] (.int x :: S) h Q := wp_on (by decide +kernel : decode (ms_B 39) 22 = .ok (.iload_n 2, 1)) rfl (fun _ _ => rfl)
theorem s39_23 {sc : List Int32} {L : List (Option Value)} {a : Nat} {i : Int32} {S : List Value} {h : List ms_C} {Q : Option Value → List ms_C → Prop} : WP sc 39 23 L (.int i :: .ref a :: S) h Q ↔ wX (ms_arr h a) (fun l => wX (ms_iat i l.length) (fun j => WP sc 39 24 L (.int (l.getD j 0) :: S) h Q)) := wp_iald (by decide +kernel : decode (ms_B 39) 23 = .ok (.iaload, 1))
theorem s39_24 {sc : List Int32} {L : List (Option Value)} {a b : Int32} {S : List Value} {h : List ms_C} {Q : Option Value → List ms_C → Prop} (hS : (S.map fun v => v.category).sum ≤ 8) : WP sc 39 24 L (.int b :: .int a :: S) h Q ↔ WP sc 39 27 L (.int (if b < a then b else a) :: S) h Q := wp_min (by decide +kernel : decode (ms_B 39) 24 = .ok (.invokestatic 89, 3)) rfl (by decide) (by have h9 : ms_W 39 = 21 := rfl; omega)
theorem s39_27 {sc : List Int32} {l0 l1 l2 : Option Value} {x : Int32} {S : List Value} {h : List ms_C} {Q : Option Value → List ms_C → Prop} (hn : wn_ok l0 = true) : WP sc 39 27 [l0, l1, l2] (.int x :: S) h Q ↔ WP sc 39 28 [l0, some (.int x), l2] S h Q := wp_set (by decide +kernel : decode (ms_B 39) 27 = .ok (.istore_n 1, 1)) rfl (fun _ _ => rfl) (ms_set_ok (A := []) hn)
theorem s39_28 {sc : List Int32} {l0 l1 : Option Value} {x : Int32} {S : List Value} {h : List ms_C} {Q : Option Value → List ms_C → Prop} (hn : wn_ok l1 = true) : WP sc 39 28 [l0, l1, some (.int x)] S h Q ↔ WP sc 39 31 [l0, l1, some (.int (x + (nI 1)))] S h Q := wp_set (by decide +kernel : decode (ms_B 39) 28 = .ok (.iinc 2 1, 3)) rfl (fun _ _ => rfl) (ms_set_ok (A := [l0]) hn)
theorem s39_31 {sc : List Int32} {L : List (Option Value)} {S : List Value} {h : List ms_C} {Q : Option Value → List ms_C → Prop} : WP sc 39 31 L S h Q ↔ WP sc 39 9 L S h Q := wp_goto (by decide +kernel : decode (ms_B 39) 31 = .ok (.goto (-22), 3)) rfl
theorem s39_34 {sc : List Int32} {l0 l2 : Option Value} {x : Int32} {S : List Value} {h : List ms_C} {Q : Option Value → List ms_C → Prop} : WP sc 39 34 [l0, some (.int x), l2] S h Q ↔ WP sc 39 35 [l0, some (.int x), l2] (.int x :: S) h Q := wp_on (by decide +kernel : decode (ms_B 39) 34 = .ok (.iload_n 1, 1)) rfl (fun _ _ => rfl)
theorem s39_35 {sc : List Int32} {L : List (Option Value)} {x : Int32} {h : List ms_C} {Q : Option Value → List ms_C → Prop} : WP sc 39 35 L [.int x] h Q ↔ Q (some (.int x)) h := wp_iret (by decide +kernel : decode (ms_B 39) 35 = .ok (.ireturn, 1)) rfl
theorem s40_0 {sc : List Int32} {l1 l2 l3 : Option Value} {x : Nat} {S : List Value} {h : List ms_C} {Q : Option Value → List ms_C → Prop} : WP sc 40 0 [some (.ref x), l1, l2, l3] S h Q ↔ WP sc 40 1 [some (.ref x), l1, l2, l3] (.ref x :: S) h Q := wp_on (by decide +kernel : decode (ms_B 40) 0 = .ok (.aload_n 0, 1)) rfl (fun _ _ => rfl)
theorem s40_1 {sc : List Int32} {L : List (Option Value)} {a : Nat} {S : List Value} {h : List ms_C} {Q : Option Value → List ms_C → Prop} : WP sc 40 1 L (.ref a :: S) h Q ↔ wX (ms_get h a 4 6) (fun v => WP sc 40 4 L (v :: S) h Q) := wp_getf (by decide +kernel : decode (ms_B 40) 1 = .ok (.getfield 34, 3)) rfl
theorem s40_4 {sc : List Int32} {L : List (Option Value)} {a : Int32} {S : List Value} {h : List ms_C} {Q : Option Value → List ms_C → Prop} : WP sc 40 4 L (.int a :: S) h Q ↔ (if a ≤ 0 then WP sc 40 11 L S h Q else WP sc 40 7 L S h Q) := wp_ifC (by decide +kernel : decode (ms_B 40) 4 = .ok (.ifCond .le 7, 3)) rfl Iff.rfl
theorem s40_7 {sc : List Int32} {l0 l2 l3 : Option Value} {x : Int32} {S : List Value} {h : List ms_C} {Q : Option Value → List ms_C → Prop} : WP sc 40 7 [l0, some (.int x), l2, l3] S h Q ↔ WP sc 40 8 [l0, some (.int x), l2, l3] (.int x :: S) h Q := wp_on (by decide +kernel : decode (ms_B 40) 7 = .ok (.iload_n 1, 1)) rfl (fun _ _ => rfl)
theorem s40_8 {sc : List Int32} {L : List (Option Value)} {a : Int32} {S : List Value} {h : List ms_C} {Q : Option Value → List ms_C → Prop} : WP sc 40 8 L (.int a :: S) h Q ↔ (if 0 ≤ a then WP sc 40 12 L S h Q else WP sc 40 11 L S h Q) := wp_ifC (by decide +kernel : decode (ms_B 40) 8 = .ok (.ifCond .ge 4, 3)) rfl Iff.rfl
theorem s40_11 {sc : List Int32} {L : List (Option Value)} {h : List ms_C} {Q : Option Value → List ms_C → Prop} : WP sc 40 11 L [] h Q ↔ Q none h := wp_ret (by decide +kernel : decode (ms_B 40) 11 = .ok (.return_, 1)) rfl
theorem s40_12 {sc : List Int32} {l0 l2 l3 : Option Value} {x : Int32} {S : List Value} {h : List ms_C} {Q : Option Value → List ms_C → Prop} : WP sc 40 12 [l0, some (.int x), l2, l3] S h Q ↔ WP sc 40 13 [l0, some (.int x), l2, l3] (.int x :: S) h Q := wp_on (by decide +kernel : decode (ms_B 40) 12 = .ok (.iload_n 1, 1)) rfl (fun _ _ => rfl)
theorem s40_13 {sc : List Int32} {l1 l2 l3 : Option Value} {x : Nat} {S : List Value} {h : List ms_C} {Q : Option Value → List ms_C → Prop} : WP sc 40 13 [some (.ref x), l1, l2, l3] S h Q ↔ WP sc 40 14 [some (.ref x), l1, l2, l3] (.ref x :: S) h Q := wp_on (by decide +kernel : decode (ms_B 40) 13 = .ok (.aload_n 0, 1)) rfl (fun _ _ => rfl)
theorem s40_14 {sc : List Int32} {L : List (Option Value)} {a : Nat} {S : List Value} {h : List ms_C} {Q : Option Value → List ms_C → Prop} : WP sc 40 14 L (.ref a :: S) h Q ↔ wX (ms_get h a 4 6) (fun v => WP sc 40 17 L (v :: S) h Q) := wp_getf (by decide +kernel : decode (ms_B 40) 14 = .ok (.getfield 34, 3)) rfl
theorem s40_17 {sc : List Int32} {L : List (Option Value)} {a b : Int32} {S : List Value} {h : List ms_C} {Q : Option Value → List ms_C → Prop} (hb : ¬ b = 0) : WP sc 40 17 L (.int b :: .int a :: S) h Q ↔ WP sc 40 18 L (.int (a - a / b * b) :: S) h Q := wp_rem (by decide +kernel : decode (ms_B 40) 17 = .ok (.irem, 1)) hb
theorem s40_18 {sc : List Int32} {l0 l1 l2 l3 : Option Value} {x : Int32} {S : List Value} {h : List ms_C} {Q : Option Value → List ms_C → Prop} (hn : wn_ok l1 = true) : WP sc 40 18 [l0, l1, l2, l3] (.int x :: S) h Q ↔ WP sc 40 19 [l0, l1, some (.int x), l3] S h Q := wp_set (by decide +kernel : decode (ms_B 40) 18 = .ok (.istore_n 2, 1)) rfl (fun _ _ => rfl) (ms_set_ok (A := [l0]) hn)
theorem s40_19 {sc : List Int32} {l0 l2 l3 : Option Value} {x : Int32} {S : List Value} {h : List ms_C} {Q : Option Value → List ms_C → Prop} : WP sc 40 19 [l0, some (.int x), l2, l3] S h Q ↔ WP sc 40 20 [l0, some (.int x), l2, l3] (.int x :: S) h Q := wp_on (by decide +kernel : decode (ms_B 40) 19 = .ok (.iload_n 1, 1)) rfl (fun _ _ => rfl)
theorem s40_20 {sc : List Int32} {L : List (Option Value)} {S : List Value} {h : List ms_C} {Q : Option Value → List ms_C → Prop} : WP sc 40 20 L S h Q ↔ WP sc 40 22 L (.int (nI 64) :: S) h Q := wp_on (by decide +kernel : decode (ms_B 40) 20 = .ok (.bipush 64, 2)) rfl (fun _ _ => rfl)
theorem s40_22 {sc : List Int32} {L : List (Option Value)} {a b : Int32} {S : List Value} {h : List ms_C} {Q : Option Value → List ms_C → Prop} (hb : ¬ b = 0) : WP sc 40 22 L (.int b :: .int a :: S) h Q ↔ WP sc 40 23 L (.int (a / b) :: S) h Q := wp_div (by decide +kernel : decode (ms_B 40) 22 = .ok (.idiv, 1)) hb
theorem s40_23 {sc : List Int32} {l0 l1 l2 l3 : Option Value} {x : Int32} {S : List Value} {h : List ms_C} {Q : Option Value → List ms_C → Prop} (hn : wn_ok l2 = true) : WP sc 40 23 [l0, l1, l2, l3] (.int x :: S) h Q ↔ WP sc 40 24 [l0, l1, l2, some (.int x)] S h Q := wp_set (by decide +kernel : decode (ms_B 40) 23 = .ok (.istore_n 3, 1)) rfl (fun _ _ => rfl) (ms_set_ok (A := [l0, l1]) hn)
theorem s40_24 {sc : List Int32} {l0 l2 l3 : Option Value} {x : Int32} {S : List Value} {h : List ms_C} {Q : Option Value → List ms_C → Prop} : WP sc 40 24 [l0, some (.int x), l2, l3] S h Q ↔ WP sc 40 25 [l0, some (.int x), l2, l3] (.int x :: S) h Q := wp_on (by decide +kernel : decode (ms_B 40) 24 = .ok (.iload_n 1, 1)) rfl (fun _ _ => rfl)
theorem s40_25 {sc : List Int32} {L : List (Option Value)} {S : List Value} {h : List ms_C} {Q : Option Value → List ms_C → Prop} : WP sc 40 25 L S h Q ↔ WP sc 40 27 L (.int (nI 8) :: S) h Q := wp_on (by decide +kernel : decode (ms_B 40) 25 = .ok (.bipush 8, 2)) rfl (fun _ _ => rfl)
theorem s40_27 {sc : List Int32} {L : List (Option Value)} {a b : Int32} {S : List Value} {h : List ms_C} {Q : Option Value → List ms_C → Prop} (hb : ¬ b = 0) : WP sc 40 27 L (.int b :: .int a :: S) h Q ↔ WP sc 40 28 L (.int (a / b) :: S) h Q := wp_div (by decide +kernel : decode (ms_B 40) 27 = .ok (.idiv, 1)) hb
theorem s40_28 {sc : List Int32} {L : List (Option Value)} {S : List Value} {h : List ms_C} {Q : Option Value → List ms_C → Prop} : WP sc 40 28 L S h Q ↔ WP sc 40 29 L (.int (nI 4) :: S) h Q := wp_on (by decide +kernel : decode (ms_B 40) 28 = .ok (.iconst 4, 1)) rfl (fun _ _ => rfl)
theorem s40_29 {sc : List Int32} {L : List (Option Value)} {a b : Int32} {S : List Value} {h : List ms_C} {Q : Option Value → List ms_C → Prop} (hb : ¬ b = 0) : WP sc 40 29 L (.int b :: .int a :: S) h Q ↔ WP sc 40 30 L (.int (a - a / b * b) :: S) h Q := wp_rem (by decide +kernel : decode (ms_B 40) 29 = .ok (.irem, 1)) hb
theorem s40_30 {sc : List Int32} {L : List (Option Value)} {a : Int32} {S : List Value} {h : List ms_C} {Q : Option Value → List ms_C → Prop} : WP sc 40 30 L (.int a :: S) h Q ↔ (if a = nI 0 then WP sc 40 56 L S h Q else (if a = nI 1 then WP sc 40 69 L S h Q else (if a = nI 2 then WP sc 40 99 L S h Q else WP sc 40 109 L S h Q))) := by
  by_cases n0 : a = nI 0
  · rw [if_pos n0]; subst n0; exact wp_tabT (by decide +kernel : decode (ms_B 40) 30 = .ok (.tableswitch 79 0 2 #[26, 39, 69], 26)) (by decide) rfl rfl
  rw [if_neg n0]
  by_cases n1 : a = nI 1
  · rw [if_pos n1]; subst n1; exact wp_tabT (by decide +kernel : decode (ms_B 40) 30 = .ok (.tableswitch 79 0 2 #[26, 39, 69], 26)) (by decide) rfl rfl
  rw [if_neg n1]
  by_cases n2 : a = nI 2
  · rw [if_pos n2]; subst n2; exact wp_tabT (by decide +kernel : decode (ms_B 40) 30 = .ok (.tableswitch 79 0 2 #[26, 39, 69], 26)) (by decide) rfl rfl
  rw [if_neg n2]
  exact wp_tabD (by decide +kernel : decode (ms_B 40) 30 = .ok (.tableswitch 79 0 2 #[26, 39, 69], 26)) (ms_tout (fun k h1 h2 => by
    rcases (by omega : k = 0 ∨ k = 1 ∨ k = 2) with rfl | rfl | rfl
    · exact ms_eqI n0 rfl
    · exact ms_eqI n1 rfl
    · exact ms_eqI n2 rfl)) rfl
theorem s40_56 {sc : List Int32} {l1 l2 l3 : Option Value} {x : Nat} {S : List Value} {h : List ms_C} {Q : Option Value → List ms_C → Prop} : WP sc 40 56 [some (.ref x), l1, l2, l3] S h Q ↔ WP sc 40 57 [some (.ref x), l1, l2, l3] (.ref x :: S) h Q := wp_on (by decide +kernel : decode (ms_B 40) 56 = .ok (.aload_n 0, 1)) rfl (fun _ _ => rfl)
theorem s40_57 {sc : List Int32} {L : List (Option Value)} {a : Nat} {S : List Value} {h : List ms_C} {Q : Option Value → List ms_C → Prop} : WP sc 40 57 L (.ref a :: S) h Q ↔ wX (ms_get h a 4 3) (fun v => WP sc 40 60 L (v :: S) h Q) := wp_getf (by decide +kernel : decode (ms_B 40) 57 = .ok (.getfield 21, 3)) rfl
theorem s40_60 {sc : List Int32} {l0 l1 l3 : Option Value} {x : Int32} {S : List Value} {h : List ms_C} {Q : Option Value → List ms_C → Prop} : WP sc 40 60 [l0, l1, some (.int x), l3] S h Q ↔ WP sc 40 61 [l0, l1, some (.int x), l3] (.int x :: S) h Q := wp_on (by decide +kernel : decode (ms_B 40) 60 = .ok (.iload_n 2, 1)) rfl (fun _ _ => rfl)
theorem s40_61 {sc : List Int32} {l0 l1 l2 : Option Value} {x : Int32} {S : List Value} {h : List ms_C} {Q : Option Value → List ms_C → Prop} : WP sc 40 61 [l0, l1, l2, some (.int x)] S h Q ↔ WP sc 40 62 [l0, l1, l2, some (.int x)] (.int x :: S) h Q := wp_on (by decide +kernel : decode (ms_B 40) 61 = .ok (.iload_n 3, 1)) rfl (fun _ _ => rfl)
theorem s40_62 {sc : List Int32} {L : List (Option Value)} {S : List Value} {h : List ms_C} {Q : Option Value → List ms_C → Prop} : WP sc 40 62 L S h Q ↔ WP sc 40 64 L (.int (nI 12) :: S) h Q := wp_on (by decide +kernel : decode (ms_B 40) 62 = .ok (.bipush 12, 2)) rfl (fun _ _ => rfl)
theorem s40_64 {sc : List Int32} {L : List (Option Value)} {a b : Int32} {S : List Value} {h : List ms_C} {Q : Option Value → List ms_C → Prop} (hb : ¬ b = 0) : WP sc 40 64 L (.int b :: .int a :: S) h Q ↔ WP sc 40 65 L (.int (a - a / b * b) :: S) h Q := wp_rem (by decide +kernel : decode (ms_B 40) 64 = .ok (.irem, 1)) hb
theorem s40_65 {sc : List Int32} {L : List (Option Value)} {a : Nat} {i x : Int32} {S : List Value} {h : List ms_C} {Q : Option Value → List ms_C → Prop} : WP sc 40 65 L (.int x :: .int i :: .ref a :: S) h Q ↔ wX (ms_arr h a) (fun l => wX (ms_iat i l.length) (fun j => WP sc 40 66 L S (h.set a (ms_ia (l.set j x))) Q)) := wp_iast (by decide +kernel : decode (ms_B 40) 65 = .ok (.iastore, 1))
theorem s40_66 {sc : List Int32} {L : List (Option Value)} {S : List Value} {h : List ms_C} {Q : Option Value → List ms_C → Prop} : WP sc 40 66 L S h Q ↔ WP sc 40 109 L S h Q := wp_goto (by decide +kernel : decode (ms_B 40) 66 = .ok (.goto 43, 3)) rfl
theorem s40_69 {sc : List Int32} {l1 l2 l3 : Option Value} {x : Nat} {S : List Value} {h : List ms_C} {Q : Option Value → List ms_C → Prop} : WP sc 40 69 [some (.ref x), l1, l2, l3] S h Q ↔ WP sc 40 70 [some (.ref x), l1, l2, l3] (.ref x :: S) h Q := wp_on (by decide +kernel : decode (ms_B 40) 69 = .ok (.aload_n 0, 1)) rfl (fun _ _ => rfl)
theorem s40_70 {sc : List Int32} {l0 l1 l3 : Option Value} {x : Int32} {S : List Value} {h : List ms_C} {Q : Option Value → List ms_C → Prop} : WP sc 40 70 [l0, l1, some (.int x), l3] S h Q ↔ WP sc 40 71 [l0, l1, some (.int x), l3] (.int x :: S) h Q := wp_on (by decide +kernel : decode (ms_B 40) 70 = .ok (.iload_n 2, 1)) rfl (fun _ _ => rfl)
theorem s40_71 {sc : List Int32} {l0 l1 l2 : Option Value} {x : Int32} {S : List Value} {h : List ms_C} {Q : Option Value → List ms_C → Prop} : WP sc 40 71 [l0, l1, l2, some (.int x)] S h Q ↔ WP sc 40 72 [l0, l1, l2, some (.int x)] (.int x :: S) h Q := wp_on (by decide +kernel : decode (ms_B 40) 71 = .ok (.iload_n 3, 1)) rfl (fun _ _ => rfl)
theorem s40_72 {sc : List Int32} {l1 l2 l3 : Option Value} {x : Nat} {S : List Value} {h : List ms_C} {Q : Option Value → List ms_C → Prop} : WP sc 40 72 [some (.ref x), l1, l2, l3] S h Q ↔ WP sc 40 73 [some (.ref x), l1, l2, l3] (.ref x :: S) h Q := wp_on (by decide +kernel : decode (ms_B 40) 72 = .ok (.aload_n 0, 1)) rfl (fun _ _ => rfl)
theorem s40_73 {sc : List Int32} {L : List (Option Value)} {a : Nat} {S : List Value} {h : List ms_C} {Q : Option Value → List ms_C → Prop} : WP sc 40 73 L (.ref a :: S) h Q ↔ wX (ms_get h a 4 6) (fun v => WP sc 40 76 L (v :: S) h Q) := wp_getf (by decide +kernel : decode (ms_B 40) 73 = .ok (.getfield 34, 3)) rfl
theorem s40_76 {sc : List Int32} {L : List (Option Value)} {a b : Int32} {S : List Value} {h : List ms_C} {Q : Option Value → List ms_C → Prop} (hb : ¬ b = 0) : WP sc 40 76 L (.int b :: .int a :: S) h Q ↔ WP sc 40 77 L (.int (a - a / b * b) :: S) h Q := wp_rem (by decide +kernel : decode (ms_B 40) 76 = .ok (.irem, 1)) hb
theorem s40_77 {sc : List Int32} {L : List (Option Value)} {S : List Value} {h : List ms_C} {Q : Option Value → List ms_C → Prop} : WP sc 40 77 L S h Q ↔ WP sc 40 78 L (.int (nI 1) :: S) h Q := wp_on (by decide +kernel : decode (ms_B 40) 77 = .ok (.iconst 1, 1)) rfl (fun _ _ => rfl)
theorem s40_78 {sc : List Int32} {L : List (Option Value)} {a : Nat} {x0 : Int32} {x1 : Int32} {x2 : Int32} {S : List Value} {h : List ms_C} {Q : Option Value → List ms_C → Prop} (hI : (ms_is h a 4).isSome = true) (hS : (S.map fun v => v.category).sum ≤ 8) : WP sc 40 78 L (.int x2 :: .int x1 :: .int x0 :: .ref a :: S) h Q ↔ WP sc 36 0 [some (.ref a), some (.int x0), some (.int x1), some (.int x2)] [] h (fun r h1 => WP sc 40 81 L (r.toList ++ S) h1 Q) := wp_virt' (vs := [.ref a, .int x0, .int x1, .int x2]) hI (by decide +kernel : decode (ms_B 40) 78 = .ok (.invokevirtual 92, 3)) rfl rfl rfl rfl (by decide) (by decide) hS (by simp [ms_args, ms_L, ms_Ll]) rfl
theorem s40_81 {sc : List Int32} {L : List (Option Value)} {a : Int32} {S : List Value} {h : List ms_C} {Q : Option Value → List ms_C → Prop} : WP sc 40 81 L (.int a :: S) h Q ↔ (if a = 0 then WP sc 40 109 L S h Q else WP sc 40 84 L S h Q) := wp_ifC (by decide +kernel : decode (ms_B 40) 81 = .ok (.ifCond .eq 28, 3)) rfl Iff.rfl
theorem s40_84 {sc : List Int32} {l1 l2 l3 : Option Value} {x : Nat} {S : List Value} {h : List ms_C} {Q : Option Value → List ms_C → Prop} : WP sc 40 84 [some (.ref x), l1, l2, l3] S h Q ↔ WP sc 40 85 [some (.ref x), l1, l2, l3] (.ref x :: S) h Q := wp_on (by decide +kernel : decode (ms_B 40) 84 = .ok (.aload_n 0, 1)) rfl (fun _ _ => rfl)
theorem s40_85 {sc : List Int32} {l0 l1 l3 : Option Value} {x : Int32} {S : List Value} {h : List ms_C} {Q : Option Value → List ms_C → Prop} : WP sc 40 85 [l0, l1, some (.int x), l3] S h Q ↔ WP sc 40 86 [l0, l1, some (.int x), l3] (.int x :: S) h Q := wp_on (by decide +kernel : decode (ms_B 40) 85 = .ok (.iload_n 2, 1)) rfl (fun _ _ => rfl)
theorem s40_86 {sc : List Int32} {l0 l1 l2 : Option Value} {x : Int32} {S : List Value} {h : List ms_C} {Q : Option Value → List ms_C → Prop} : WP sc 40 86 [l0, l1, l2, some (.int x)] S h Q ↔ WP sc 40 87 [l0, l1, l2, some (.int x)] (.int x :: S) h Q := wp_on (by decide +kernel : decode (ms_B 40) 86 = .ok (.iload_n 3, 1)) rfl (fun _ _ => rfl)
theorem s40_87 {sc : List Int32} {l1 l2 l3 : Option Value} {x : Nat} {S : List Value} {h : List ms_C} {Q : Option Value → List ms_C → Prop} : WP sc 40 87 [some (.ref x), l1, l2, l3] S h Q ↔ WP sc 40 88 [some (.ref x), l1, l2, l3] (.ref x :: S) h Q := wp_on (by decide +kernel : decode (ms_B 40) 87 = .ok (.aload_n 0, 1)) rfl (fun _ _ => rfl)
theorem s40_88 {sc : List Int32} {L : List (Option Value)} {a : Nat} {S : List Value} {h : List ms_C} {Q : Option Value → List ms_C → Prop} : WP sc 40 88 L (.ref a :: S) h Q ↔ wX (ms_get h a 4 6) (fun v => WP sc 40 91 L (v :: S) h Q) := wp_getf (by decide +kernel : decode (ms_B 40) 88 = .ok (.getfield 34, 3)) rfl
theorem s40_91 {sc : List Int32} {L : List (Option Value)} {a b : Int32} {S : List Value} {h : List ms_C} {Q : Option Value → List ms_C → Prop} (hb : ¬ b = 0) : WP sc 40 91 L (.int b :: .int a :: S) h Q ↔ WP sc 40 92 L (.int (a - a / b * b) :: S) h Q := wp_rem (by decide +kernel : decode (ms_B 40) 91 = .ok (.irem, 1)) hb
theorem s40_92 {sc : List Int32} {L : List (Option Value)} {S : List Value} {h : List ms_C} {Q : Option Value → List ms_C → Prop} : WP sc 40 92 L S h Q ↔ WP sc 40 93 L (.int (nI 1) :: S) h Q := wp_on (by decide +kernel : decode (ms_B 40) 92 = .ok (.iconst 1, 1)) rfl (fun _ _ => rfl)
theorem s40_93 {sc : List Int32} {L : List (Option Value)} {a : Nat} {x0 : Int32} {x1 : Int32} {x2 : Int32} {S : List Value} {h : List ms_C} {Q : Option Value → List ms_C → Prop} (hI : (ms_is h a 4).isSome = true) (hS : (S.map fun v => v.category).sum ≤ 8) : WP sc 40 93 L (.int x2 :: .int x1 :: .int x0 :: .ref a :: S) h Q ↔ WP sc 37 0 [some (.ref a), some (.int x0), some (.int x1), some (.int x2)] [] h (fun r h1 => WP sc 40 96 L (r.toList ++ S) h1 Q) := wp_virt' (vs := [.ref a, .int x0, .int x1, .int x2]) hI (by decide +kernel : decode (ms_B 40) 93 = .ok (.invokevirtual 95, 3)) rfl rfl rfl rfl (by decide) (by decide) hS (by simp [ms_args, ms_L, ms_Ll]) rfl
theorem s40_96 {sc : List Int32} {L : List (Option Value)} {S : List Value} {h : List ms_C} {Q : Option Value → List ms_C → Prop} : WP sc 40 96 L S h Q ↔ WP sc 40 109 L S h Q := wp_goto (by decide +kernel : decode (ms_B 40) 96 = .ok (.goto 13, 3)) rfl
theorem s40_99 {sc : List Int32} {l1 l2 l3 : Option Value} {x : Nat} {S : List Value} {h : List ms_C} {Q : Option Value → List ms_C → Prop} : WP sc 40 99 [some (.ref x), l1, l2, l3] S h Q ↔ WP sc 40 100 [some (.ref x), l1, l2, l3] (.ref x :: S) h Q := wp_on (by decide +kernel : decode (ms_B 40) 99 = .ok (.aload_n 0, 1)) rfl (fun _ _ => rfl)
theorem s40_100 {sc : List Int32} {L : List (Option Value)} {a : Nat} {S : List Value} {h : List ms_C} {Q : Option Value → List ms_C → Prop} : WP sc 40 100 L (.ref a :: S) h Q ↔ wX (ms_get h a 4 1) (fun v => WP sc 40 103 L (v :: S) h Q) := wp_getf (by decide +kernel : decode (ms_B 40) 100 = .ok (.getfield 15, 3)) rfl
theorem s40_103 {sc : List Int32} {l0 l1 l3 : Option Value} {x : Int32} {S : List Value} {h : List ms_C} {Q : Option Value → List ms_C → Prop} : WP sc 40 103 [l0, l1, some (.int x), l3] S h Q ↔ WP sc 40 104 [l0, l1, some (.int x), l3] (.int x :: S) h Q := wp_on (by decide +kernel : decode (ms_B 40) 103 = .ok (.iload_n 2, 1)) rfl (fun _ _ => rfl)
theorem s40_104 {sc : List Int32} {L : List (Option Value)} {S : List Value} {h : List ms_C} {Q : Option Value → List ms_C → Prop} : WP sc 40 104 L S h Q ↔ WP sc 40 105 L (.int (nI 0) :: S) h Q := wp_on (by decide +kernel : decode (ms_B 40) 104 = .ok (.iconst 0, 1)) rfl (fun _ _ => rfl)
theorem s40_105 {sc : List Int32} {L : List (Option Value)} {a : Nat} {i x : Int32} {S : List Value} {h : List ms_C} {Q : Option Value → List ms_C → Prop} : WP sc 40 105 L (.int x :: .int i :: .ref a :: S) h Q ↔ wX (ms_arr h a) (fun l => wX (ms_iat i l.length) (fun j => WP sc 40 106 L S (h.set a (ms_ia (l.set j x))) Q)) := wp_iast (by decide +kernel : decode (ms_B 40) 105 = .ok (.iastore, 1))
theorem s40_106 {sc : List Int32} {L : List (Option Value)} {S : List Value} {h : List ms_C} {Q : Option Value → List ms_C → Prop} : WP sc 40 106 L S h Q ↔ WP sc 40 109 L S h Q := wp_goto (by decide +kernel : decode (ms_B 40) 106 = .ok (.goto 3, 3)) rfl
theorem s40_109 {sc : List Int32} {L : List (Option Value)} {h : List ms_C} {Q : Option Value → List ms_C → Prop} : WP sc 40 109 L [] h Q ↔ Q none h := wp_ret (by decide +kernel : decode (ms_B 40) 109 = .ok (.return_, 1)) rfl
theorem s41_0 {sc : List Int32} {L : List (Option Value)} {S : List Value} {h : List ms_C} {Q : Option Value → List ms_C → Prop} : WP sc 41 0 L S h Q ↔ WP sc 41 1 L (.int (nI 0) :: S) h Q := wp_on (by decide +kernel : decode (ms_B 41) 0 = .ok (.iconst 0, 1)) rfl (fun _ _ => rfl)
theorem s41_1 {sc : List Int32} {l0 l1 l2 : Option Value} {x : Int32} {S : List Value} {h : List ms_C} {Q : Option Value → List ms_C → Prop} (hn : wn_ok l0 = true) : WP sc 41 1 [l0, l1, l2] (.int x :: S) h Q ↔ WP sc 41 2 [l0, some (.int x), l2] S h Q := wp_set (by decide +kernel : decode (ms_B 41) 1 = .ok (.istore_n 1, 1)) rfl (fun _ _ => rfl) (ms_set_ok (A := []) hn)
theorem s41_2 {sc : List Int32} {L : List (Option Value)} {S : List Value} {h : List ms_C} {Q : Option Value → List ms_C → Prop} : WP sc 41 2 L S h Q ↔ WP sc 41 3 L (.int (nI 0) :: S) h Q := wp_on (by decide +kernel : decode (ms_B 41) 2 = .ok (.iconst 0, 1)) rfl (fun _ _ => rfl)
theorem s41_3 {sc : List Int32} {l0 l1 l2 : Option Value} {x : Int32} {S : List Value} {h : List ms_C} {Q : Option Value → List ms_C → Prop} (hn : wn_ok l1 = true) : WP sc 41 3 [l0, l1, l2] (.int x :: S) h Q ↔ WP sc 41 4 [l0, l1, some (.int x)] S h Q := wp_set (by decide +kernel : decode (ms_B 41) 3 = .ok (.istore_n 2, 1)) rfl (fun _ _ => rfl) (ms_set_ok (A := [l0]) hn)
theorem s41_4 {sc : List Int32} {l0 l1 : Option Value} {x : Int32} {S : List Value} {h : List ms_C} {Q : Option Value → List ms_C → Prop} : WP sc 41 4 [l0, l1, some (.int x)] S h Q ↔ WP sc 41 5 [l0, l1, some (.int x)] (.int x :: S) h Q := wp_on (by decide +kernel : decode (ms_B 41) 4 = .ok (.iload_n 2, 1)) rfl (fun _ _ => rfl)
theorem s41_5 {sc : List Int32} {l1 l2 : Option Value} {x : Nat} {S : List Value} {h : List ms_C} {Q : Option Value → List ms_C → Prop} : WP sc 41 5 [some (.ref x), l1, l2] S h Q ↔ WP sc 41 6 [some (.ref x), l1, l2] (.ref x :: S) h Q := wp_on (by decide +kernel : decode (ms_B 41) 5 = .ok (.aload_n 0, 1)) rfl (fun _ _ => rfl)
theorem s41_6 {sc : List Int32} {L : List (Option Value)} {a : Nat} {S : List Value} {h : List ms_C} {Q : Option Value → List ms_C → Prop} : WP sc 41 6 L (.ref a :: S) h Q ↔ wX (ms_get h a 4 6) (fun v => WP sc 41 9 L (v :: S) h Q) := wp_getf (by decide +kernel : decode (ms_B 41) 6 = .ok (.getfield 34, 3)) rfl
theorem s41_9 {sc : List Int32} {L : List (Option Value)} {a b : Int32} {S : List Value} {h : List ms_C} {Q : Option Value → List ms_C → Prop} : WP sc 41 9 L (.int b :: .int a :: S) h Q ↔ (if b ≤ a then WP sc 41 27 L S h Q else WP sc 41 12 L S h Q) := wp_ifI (by decide +kernel : decode (ms_B 41) 9 = .ok (.if_icmp .ge 18, 3)) rfl Iff.rfl
theorem s41_12 {sc : List Int32} {l0 l2 : Option Value} {x : Int32} {S : List Value} {h : List ms_C} {Q : Option Value → List ms_C → Prop} : WP sc 41 12 [l0, some (.int x), l2] S h Q ↔ WP sc 41 13 [l0, some (.int x), l2] (.int x :: S) h Q := wp_on (by decide +kernel : decode (ms_B 41) 12 = .ok (.iload_n 1, 1)) rfl (fun _ _ => rfl)
theorem s41_13 {sc : List Int32} {l1 l2 : Option Value} {x : Nat} {S : List Value} {h : List ms_C} {Q : Option Value → List ms_C → Prop} : WP sc 41 13 [some (.ref x), l1, l2] S h Q ↔ WP sc 41 14 [some (.ref x), l1, l2] (.ref x :: S) h Q := wp_on (by decide +kernel : decode (ms_B 41) 13 = .ok (.aload_n 0, 1)) rfl (fun _ _ => rfl)
theorem s41_14 {sc : List Int32} {L : List (Option Value)} {a : Nat} {S : List Value} {h : List ms_C} {Q : Option Value → List ms_C → Prop} : WP sc 41 14 L (.ref a :: S) h Q ↔ wX (ms_get h a 4 1) (fun v => WP sc 41 17 L (v :: S) h Q) := wp_getf (by decide +kernel : decode (ms_B 41) 14 = .ok (.getfield 15, 3)) rfl
theorem s41_17 {sc : List Int32} {l0 l1 : Option Value} {x : Int32} {S : List Value} {h : List ms_C} {Q : Option Value → List ms_C → Prop} : WP sc 41 17 [l0, l1, some (.int x)] S h Q ↔ WP sc 41 18 [l0, l1, some (.int x)] (.int x :: S) h Q := wp_on (by decide +kernel : decode (ms_B 41) 17 = .ok (.iload_n 2, 1)) rfl (fun _ _ => rfl)
theorem s41_18 {sc : List Int32} {L : List (Option Value)} {a : Nat} {i : Int32} {S : List Value} {h : List ms_C} {Q : Option Value → List ms_C → Prop} : WP sc 41 18 L (.int i :: .ref a :: S) h Q ↔ wX (ms_arr h a) (fun l => wX (ms_iat i l.length) (fun j => WP sc 41 19 L (.int (l.getD j 0) :: S) h Q)) := wp_iald (by decide +kernel : decode (ms_B 41) 18 = .ok (.iaload, 1))
theorem s41_19 {sc : List Int32} {L : List (Option Value)} {a b : Int32} {S : List Value} {h : List ms_C} {Q : Option Value → List ms_C → Prop} : WP sc 41 19 L (.int b :: .int a :: S) h Q ↔ WP sc 41 20 L (.int (a + b) :: S) h Q := wp_on (by decide +kernel : decode (ms_B 41) 19 = .ok (.iadd, 1)) rfl (fun _ _ => rfl)
theorem s41_20 {sc : List Int32} {l0 l1 l2 : Option Value} {x : Int32} {S : List Value} {h : List ms_C} {Q : Option Value → List ms_C → Prop} (hn : wn_ok l0 = true) : WP sc 41 20 [l0, l1, l2] (.int x :: S) h Q ↔ WP sc 41 21 [l0, some (.int x), l2] S h Q := wp_set (by decide +kernel : decode (ms_B 41) 20 = .ok (.istore_n 1, 1)) rfl (fun _ _ => rfl) (ms_set_ok (A := []) hn)
theorem s41_21 {sc : List Int32} {l0 l1 : Option Value} {x : Int32} {S : List Value} {h : List ms_C} {Q : Option Value → List ms_C → Prop} (hn : wn_ok l1 = true) : WP sc 41 21 [l0, l1, some (.int x)] S h Q ↔ WP sc 41 24 [l0, l1, some (.int (x + (nI 1)))] S h Q := wp_set (by decide +kernel : decode (ms_B 41) 21 = .ok (.iinc 2 1, 3)) rfl (fun _ _ => rfl) (ms_set_ok (A := [l0]) hn)
theorem s41_24 {sc : List Int32} {L : List (Option Value)} {S : List Value} {h : List ms_C} {Q : Option Value → List ms_C → Prop} : WP sc 41 24 L S h Q ↔ WP sc 41 4 L S h Q := wp_goto (by decide +kernel : decode (ms_B 41) 24 = .ok (.goto (-20), 3)) rfl
theorem s41_27 {sc : List Int32} {l0 l2 : Option Value} {x : Int32} {S : List Value} {h : List ms_C} {Q : Option Value → List ms_C → Prop} : WP sc 41 27 [l0, some (.int x), l2] S h Q ↔ WP sc 41 28 [l0, some (.int x), l2] (.int x :: S) h Q := wp_on (by decide +kernel : decode (ms_B 41) 27 = .ok (.iload_n 1, 1)) rfl (fun _ _ => rfl)
theorem s41_28 {sc : List Int32} {L : List (Option Value)} {x : Int32} {h : List ms_C} {Q : Option Value → List ms_C → Prop} : WP sc 41 28 L [.int x] h Q ↔ Q (some (.int x)) h := wp_iret (by decide +kernel : decode (ms_B 41) 28 = .ok (.ireturn, 1)) rfl
theorem s131_0 {sc : List Int32} {x : Int32} {S : List Value} {h : List ms_C} {Q : Option Value → List ms_C → Prop} : WP sc 131 0 [some (.int x)] S h Q ↔ WP sc 131 1 [some (.int x)] (.int x :: S) h Q := wp_on (by decide +kernel : decode (ms_B 131) 0 = .ok (.iload_n 0, 1)) rfl (fun _ _ => rfl)
theorem s131_1 {sc : List Int32} {x : Int32} {S : List Value} {h : List ms_C} {Q : Option Value → List ms_C → Prop} : WP sc 131 1 [some (.int x)] S h Q ↔ WP sc 131 2 [some (.int x)] (.int x :: S) h Q := wp_on (by decide +kernel : decode (ms_B 131) 1 = .ok (.iload_n 0, 1)) rfl (fun _ _ => rfl)
theorem s131_2 {sc : List Int32} {L : List (Option Value)} {S : List Value} {h : List ms_C} {Q : Option Value → List ms_C → Prop} : WP sc 131 2 L S h Q ↔ WP sc 131 3 L (.int (nI 1) :: S) h Q := wp_on (by decide +kernel : decode (ms_B 131) 2 = .ok (.iconst 1, 1)) rfl (fun _ _ => rfl)
theorem s131_3 {sc : List Int32} {L : List (Option Value)} {a b : Int32} {S : List Value} {h : List ms_C} {Q : Option Value → List ms_C → Prop} : WP sc 131 3 L (.int b :: .int a :: S) h Q ↔ WP sc 131 4 L (.int (a.toUInt32 >>> (b.toUInt32 &&& Int32.toUInt32 31)).toInt32 :: S) h Q := wp_on (by decide +kernel : decode (ms_B 131) 3 = .ok (.iushr, 1)) rfl (fun _ _ => rfl)
theorem s131_4 {sc : List Int32} {L : List (Option Value)} {S : List Value} {h : List ms_C} {Q : Option Value → List ms_C → Prop} : WP sc 131 4 L S h Q ↔ WP sc 131 7 L (.int (1431655765 : Int32) :: S) h Q := wp_ldcw (by decide +kernel : decode (ms_B 131) 4 = .ok (.ldc_w 265, 3)) rfl
theorem s131_7 {sc : List Int32} {L : List (Option Value)} {a b : Int32} {S : List Value} {h : List ms_C} {Q : Option Value → List ms_C → Prop} : WP sc 131 7 L (.int b :: .int a :: S) h Q ↔ WP sc 131 8 L (.int (a &&& b) :: S) h Q := wp_on (by decide +kernel : decode (ms_B 131) 7 = .ok (.iand, 1)) rfl (fun _ _ => rfl)
theorem s131_8 {sc : List Int32} {L : List (Option Value)} {a b : Int32} {S : List Value} {h : List ms_C} {Q : Option Value → List ms_C → Prop} : WP sc 131 8 L (.int b :: .int a :: S) h Q ↔ WP sc 131 9 L (.int (a - b) :: S) h Q := wp_on (by decide +kernel : decode (ms_B 131) 8 = .ok (.isub, 1)) rfl (fun _ _ => rfl)
theorem s131_9 {sc : List Int32} {l0 : Option Value} {x : Int32} {S : List Value} {h : List ms_C} {Q : Option Value → List ms_C → Prop} : WP sc 131 9 [l0] (.int x :: S) h Q ↔ WP sc 131 10 [some (.int x)] S h Q := wp_on (by decide +kernel : decode (ms_B 131) 9 = .ok (.istore_n 0, 1)) rfl (fun _ _ => rfl)
theorem s131_10 {sc : List Int32} {x : Int32} {S : List Value} {h : List ms_C} {Q : Option Value → List ms_C → Prop} : WP sc 131 10 [some (.int x)] S h Q ↔ WP sc 131 11 [some (.int x)] (.int x :: S) h Q := wp_on (by decide +kernel : decode (ms_B 131) 10 = .ok (.iload_n 0, 1)) rfl (fun _ _ => rfl)
theorem s131_11 {sc : List Int32} {L : List (Option Value)} {S : List Value} {h : List ms_C} {Q : Option Value → List ms_C → Prop} : WP sc 131 11 L S h Q ↔ WP sc 131 14 L (.int (858993459 : Int32) :: S) h Q := wp_ldcw (by decide +kernel : decode (ms_B 131) 11 = .ok (.ldc_w 266, 3)) rfl
theorem s131_14 {sc : List Int32} {L : List (Option Value)} {a b : Int32} {S : List Value} {h : List ms_C} {Q : Option Value → List ms_C → Prop} : WP sc 131 14 L (.int b :: .int a :: S) h Q ↔ WP sc 131 15 L (.int (a &&& b) :: S) h Q := wp_on (by decide +kernel : decode (ms_B 131) 14 = .ok (.iand, 1)) rfl (fun _ _ => rfl)
theorem s131_15 {sc : List Int32} {x : Int32} {S : List Value} {h : List ms_C} {Q : Option Value → List ms_C → Prop} : WP sc 131 15 [some (.int x)] S h Q ↔ WP sc 131 16 [some (.int x)] (.int x :: S) h Q := wp_on (by decide +kernel : decode (ms_B 131) 15 = .ok (.iload_n 0, 1)) rfl (fun _ _ => rfl)
theorem s131_16 {sc : List Int32} {L : List (Option Value)} {S : List Value} {h : List ms_C} {Q : Option Value → List ms_C → Prop} : WP sc 131 16 L S h Q ↔ WP sc 131 17 L (.int (nI 2) :: S) h Q := wp_on (by decide +kernel : decode (ms_B 131) 16 = .ok (.iconst 2, 1)) rfl (fun _ _ => rfl)
theorem s131_17 {sc : List Int32} {L : List (Option Value)} {a b : Int32} {S : List Value} {h : List ms_C} {Q : Option Value → List ms_C → Prop} : WP sc 131 17 L (.int b :: .int a :: S) h Q ↔ WP sc 131 18 L (.int (a.toUInt32 >>> (b.toUInt32 &&& Int32.toUInt32 31)).toInt32 :: S) h Q := wp_on (by decide +kernel : decode (ms_B 131) 17 = .ok (.iushr, 1)) rfl (fun _ _ => rfl)
theorem s131_18 {sc : List Int32} {L : List (Option Value)} {S : List Value} {h : List ms_C} {Q : Option Value → List ms_C → Prop} : WP sc 131 18 L S h Q ↔ WP sc 131 21 L (.int (858993459 : Int32) :: S) h Q := wp_ldcw (by decide +kernel : decode (ms_B 131) 18 = .ok (.ldc_w 266, 3)) rfl
theorem s131_21 {sc : List Int32} {L : List (Option Value)} {a b : Int32} {S : List Value} {h : List ms_C} {Q : Option Value → List ms_C → Prop} : WP sc 131 21 L (.int b :: .int a :: S) h Q ↔ WP sc 131 22 L (.int (a &&& b) :: S) h Q := wp_on (by decide +kernel : decode (ms_B 131) 21 = .ok (.iand, 1)) rfl (fun _ _ => rfl)
theorem s131_22 {sc : List Int32} {L : List (Option Value)} {a b : Int32} {S : List Value} {h : List ms_C} {Q : Option Value → List ms_C → Prop} : WP sc 131 22 L (.int b :: .int a :: S) h Q ↔ WP sc 131 23 L (.int (a + b) :: S) h Q := wp_on (by decide +kernel : decode (ms_B 131) 22 = .ok (.iadd, 1)) rfl (fun _ _ => rfl)
theorem s131_23 {sc : List Int32} {l0 : Option Value} {x : Int32} {S : List Value} {h : List ms_C} {Q : Option Value → List ms_C → Prop} : WP sc 131 23 [l0] (.int x :: S) h Q ↔ WP sc 131 24 [some (.int x)] S h Q := wp_on (by decide +kernel : decode (ms_B 131) 23 = .ok (.istore_n 0, 1)) rfl (fun _ _ => rfl)
theorem s131_24 {sc : List Int32} {x : Int32} {S : List Value} {h : List ms_C} {Q : Option Value → List ms_C → Prop} : WP sc 131 24 [some (.int x)] S h Q ↔ WP sc 131 25 [some (.int x)] (.int x :: S) h Q := wp_on (by decide +kernel : decode (ms_B 131) 24 = .ok (.iload_n 0, 1)) rfl (fun _ _ => rfl)
theorem s131_25 {sc : List Int32} {x : Int32} {S : List Value} {h : List ms_C} {Q : Option Value → List ms_C → Prop} : WP sc 131 25 [some (.int x)] S h Q ↔ WP sc 131 26 [some (.int x)] (.int x :: S) h Q := wp_on (by decide +kernel : decode (ms_B 131) 25 = .ok (.iload_n 0, 1)) rfl (fun _ _ => rfl)
theorem s131_26 {sc : List Int32} {L : List (Option Value)} {S : List Value} {h : List ms_C} {Q : Option Value → List ms_C → Prop} : WP sc 131 26 L S h Q ↔ WP sc 131 27 L (.int (nI 4) :: S) h Q := wp_on (by decide +kernel : decode (ms_B 131) 26 = .ok (.iconst 4, 1)) rfl (fun _ _ => rfl)
theorem s131_27 {sc : List Int32} {L : List (Option Value)} {a b : Int32} {S : List Value} {h : List ms_C} {Q : Option Value → List ms_C → Prop} : WP sc 131 27 L (.int b :: .int a :: S) h Q ↔ WP sc 131 28 L (.int (a.toUInt32 >>> (b.toUInt32 &&& Int32.toUInt32 31)).toInt32 :: S) h Q := wp_on (by decide +kernel : decode (ms_B 131) 27 = .ok (.iushr, 1)) rfl (fun _ _ => rfl)
theorem s131_28 {sc : List Int32} {L : List (Option Value)} {a b : Int32} {S : List Value} {h : List ms_C} {Q : Option Value → List ms_C → Prop} : WP sc 131 28 L (.int b :: .int a :: S) h Q ↔ WP sc 131 29 L (.int (a + b) :: S) h Q := wp_on (by decide +kernel : decode (ms_B 131) 28 = .ok (.iadd, 1)) rfl (fun _ _ => rfl)
theorem s131_29 {sc : List Int32} {L : List (Option Value)} {S : List Value} {h : List ms_C} {Q : Option Value → List ms_C → Prop} : WP sc 131 29 L S h Q ↔ WP sc 131 32 L (.int (252645135 : Int32) :: S) h Q := wp_ldcw (by decide +kernel : decode (ms_B 131) 29 = .ok (.ldc_w 267, 3)) rfl
theorem s131_32 {sc : List Int32} {L : List (Option Value)} {a b : Int32} {S : List Value} {h : List ms_C} {Q : Option Value → List ms_C → Prop} : WP sc 131 32 L (.int b :: .int a :: S) h Q ↔ WP sc 131 33 L (.int (a &&& b) :: S) h Q := wp_on (by decide +kernel : decode (ms_B 131) 32 = .ok (.iand, 1)) rfl (fun _ _ => rfl)
theorem s131_33 {sc : List Int32} {l0 : Option Value} {x : Int32} {S : List Value} {h : List ms_C} {Q : Option Value → List ms_C → Prop} : WP sc 131 33 [l0] (.int x :: S) h Q ↔ WP sc 131 34 [some (.int x)] S h Q := wp_on (by decide +kernel : decode (ms_B 131) 33 = .ok (.istore_n 0, 1)) rfl (fun _ _ => rfl)
theorem s131_34 {sc : List Int32} {x : Int32} {S : List Value} {h : List ms_C} {Q : Option Value → List ms_C → Prop} : WP sc 131 34 [some (.int x)] S h Q ↔ WP sc 131 35 [some (.int x)] (.int x :: S) h Q := wp_on (by decide +kernel : decode (ms_B 131) 34 = .ok (.iload_n 0, 1)) rfl (fun _ _ => rfl)
theorem s131_35 {sc : List Int32} {x : Int32} {S : List Value} {h : List ms_C} {Q : Option Value → List ms_C → Prop} : WP sc 131 35 [some (.int x)] S h Q ↔ WP sc 131 36 [some (.int x)] (.int x :: S) h Q := wp_on (by decide +kernel : decode (ms_B 131) 35 = .ok (.iload_n 0, 1)) rfl (fun _ _ => rfl)
theorem s131_36 {sc : List Int32} {L : List (Option Value)} {S : List Value} {h : List ms_C} {Q : Option Value → List ms_C → Prop} : WP sc 131 36 L S h Q ↔ WP sc 131 38 L (.int (nI 8) :: S) h Q := wp_on (by decide +kernel : decode (ms_B 131) 36 = .ok (.bipush 8, 2)) rfl (fun _ _ => rfl)
theorem s131_38 {sc : List Int32} {L : List (Option Value)} {a b : Int32} {S : List Value} {h : List ms_C} {Q : Option Value → List ms_C → Prop} : WP sc 131 38 L (.int b :: .int a :: S) h Q ↔ WP sc 131 39 L (.int (a.toUInt32 >>> (b.toUInt32 &&& Int32.toUInt32 31)).toInt32 :: S) h Q := wp_on (by decide +kernel : decode (ms_B 131) 38 = .ok (.iushr, 1)) rfl (fun _ _ => rfl)
theorem s131_39 {sc : List Int32} {L : List (Option Value)} {a b : Int32} {S : List Value} {h : List ms_C} {Q : Option Value → List ms_C → Prop} : WP sc 131 39 L (.int b :: .int a :: S) h Q ↔ WP sc 131 40 L (.int (a + b) :: S) h Q := wp_on (by decide +kernel : decode (ms_B 131) 39 = .ok (.iadd, 1)) rfl (fun _ _ => rfl)
theorem s131_40 {sc : List Int32} {l0 : Option Value} {x : Int32} {S : List Value} {h : List ms_C} {Q : Option Value → List ms_C → Prop} : WP sc 131 40 [l0] (.int x :: S) h Q ↔ WP sc 131 41 [some (.int x)] S h Q := wp_on (by decide +kernel : decode (ms_B 131) 40 = .ok (.istore_n 0, 1)) rfl (fun _ _ => rfl)
theorem s131_41 {sc : List Int32} {x : Int32} {S : List Value} {h : List ms_C} {Q : Option Value → List ms_C → Prop} : WP sc 131 41 [some (.int x)] S h Q ↔ WP sc 131 42 [some (.int x)] (.int x :: S) h Q := wp_on (by decide +kernel : decode (ms_B 131) 41 = .ok (.iload_n 0, 1)) rfl (fun _ _ => rfl)
theorem s131_42 {sc : List Int32} {x : Int32} {S : List Value} {h : List ms_C} {Q : Option Value → List ms_C → Prop} : WP sc 131 42 [some (.int x)] S h Q ↔ WP sc 131 43 [some (.int x)] (.int x :: S) h Q := wp_on (by decide +kernel : decode (ms_B 131) 42 = .ok (.iload_n 0, 1)) rfl (fun _ _ => rfl)
theorem s131_43 {sc : List Int32} {L : List (Option Value)} {S : List Value} {h : List ms_C} {Q : Option Value → List ms_C → Prop} : WP sc 131 43 L S h Q ↔ WP sc 131 45 L (.int (nI 16) :: S) h Q := wp_on (by decide +kernel : decode (ms_B 131) 43 = .ok (.bipush 16, 2)) rfl (fun _ _ => rfl)
theorem s131_45 {sc : List Int32} {L : List (Option Value)} {a b : Int32} {S : List Value} {h : List ms_C} {Q : Option Value → List ms_C → Prop} : WP sc 131 45 L (.int b :: .int a :: S) h Q ↔ WP sc 131 46 L (.int (a.toUInt32 >>> (b.toUInt32 &&& Int32.toUInt32 31)).toInt32 :: S) h Q := wp_on (by decide +kernel : decode (ms_B 131) 45 = .ok (.iushr, 1)) rfl (fun _ _ => rfl)
theorem s131_46 {sc : List Int32} {L : List (Option Value)} {a b : Int32} {S : List Value} {h : List ms_C} {Q : Option Value → List ms_C → Prop} : WP sc 131 46 L (.int b :: .int a :: S) h Q ↔ WP sc 131 47 L (.int (a + b) :: S) h Q := wp_on (by decide +kernel : decode (ms_B 131) 46 = .ok (.iadd, 1)) rfl (fun _ _ => rfl)
theorem s131_47 {sc : List Int32} {l0 : Option Value} {x : Int32} {S : List Value} {h : List ms_C} {Q : Option Value → List ms_C → Prop} : WP sc 131 47 [l0] (.int x :: S) h Q ↔ WP sc 131 48 [some (.int x)] S h Q := wp_on (by decide +kernel : decode (ms_B 131) 47 = .ok (.istore_n 0, 1)) rfl (fun _ _ => rfl)
theorem s131_48 {sc : List Int32} {x : Int32} {S : List Value} {h : List ms_C} {Q : Option Value → List ms_C → Prop} : WP sc 131 48 [some (.int x)] S h Q ↔ WP sc 131 49 [some (.int x)] (.int x :: S) h Q := wp_on (by decide +kernel : decode (ms_B 131) 48 = .ok (.iload_n 0, 1)) rfl (fun _ _ => rfl)
theorem s131_49 {sc : List Int32} {L : List (Option Value)} {S : List Value} {h : List ms_C} {Q : Option Value → List ms_C → Prop} : WP sc 131 49 L S h Q ↔ WP sc 131 51 L (.int (nI 63) :: S) h Q := wp_on (by decide +kernel : decode (ms_B 131) 49 = .ok (.bipush 63, 2)) rfl (fun _ _ => rfl)
theorem s131_51 {sc : List Int32} {L : List (Option Value)} {a b : Int32} {S : List Value} {h : List ms_C} {Q : Option Value → List ms_C → Prop} : WP sc 131 51 L (.int b :: .int a :: S) h Q ↔ WP sc 131 52 L (.int (a &&& b) :: S) h Q := wp_on (by decide +kernel : decode (ms_B 131) 51 = .ok (.iand, 1)) rfl (fun _ _ => rfl)
theorem s131_52 {sc : List Int32} {L : List (Option Value)} {x : Int32} {h : List ms_C} {Q : Option Value → List ms_C → Prop} : WP sc 131 52 L [.int x] h Q ↔ Q (some (.int x)) h := wp_iret (by decide +kernel : decode (ms_B 131) 52 = .ok (.ireturn, 1)) rfl
end

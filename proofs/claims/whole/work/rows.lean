section
-- ===== PART A: goes FIRST, ahead of the names: the tables' words, and 'selects' of the private methods out of them =====
/-- a private method of a class that the tables say can be made, by its rows of tables_1 -/
def lw_okq (q : MethodName × Nat) : Prop := (q.1.cls ≠ "java/lang/invoke/MethodHandle" ∧ q.1.cls ≠ "java/lang/invoke/VarHandle") ∧ Cond.instantiable q.1.cls q.2 ∈ tables_1 ∧ Cond.privateMethod q.1 ∈ tables_1 ∧ Cond.instanceMethod q.1 ∈ tables_1
theorem lw_p0 : lw_okq (⟨"MayorsChair", "poorestHelped", "(III)I"⟩, 7) := ⟨⟨by decide +kernel, by decide +kernel⟩, List.mem_of_getElem? (i := 11) (by decide +kernel), List.mem_of_getElem? (i := 380) (by decide +kernel), List.mem_of_getElem? (i := 381) (by decide +kernel)⟩
theorem lw_p1 : lw_okq (⟨"MayorsChair", "chairBehind", "(II)I"⟩, 7) := ⟨⟨by decide +kernel, by decide +kernel⟩, List.mem_of_getElem? (i := 11) (by decide +kernel), List.mem_of_getElem? (i := 419) (by decide +kernel), List.mem_of_getElem? (i := 420) (by decide +kernel)⟩
theorem lw_p2 : lw_okq (⟨"MayorsChairModel", "empty", "()V"⟩, 21) := ⟨⟨by decide +kernel, by decide +kernel⟩, List.mem_of_getElem? (i := 470) (by decide +kernel), List.mem_of_getElem? (i := 476) (by decide +kernel), List.mem_of_getElem? (i := 477) (by decide +kernel)⟩
theorem lw_p3 : lw_okq (⟨"MayorsChairModel", "streetIs", "(III)V"⟩, 21) := ⟨⟨by decide +kernel, by decide +kernel⟩, List.mem_of_getElem? (i := 470) (by decide +kernel), List.mem_of_getElem? (i := 480) (by decide +kernel), List.mem_of_getElem? (i := 481) (by decide +kernel)⟩
theorem lw_p4 : lw_okq (⟨"MayorsChairModel", "workIs", "(I)V"⟩, 21) := ⟨⟨by decide +kernel, by decide +kernel⟩, List.mem_of_getElem? (i := 470) (by decide +kernel), List.mem_of_getElem? (i := 484) (by decide +kernel), List.mem_of_getElem? (i := 485) (by decide +kernel)⟩
theorem lw_p5 : lw_okq (⟨"MayorsChairModel", "begin", "()V"⟩, 21) := ⟨⟨by decide +kernel, by decide +kernel⟩, List.mem_of_getElem? (i := 470) (by decide +kernel), List.mem_of_getElem? (i := 488) (by decide +kernel), List.mem_of_getElem? (i := 489) (by decide +kernel)⟩
theorem lw_p6 : lw_okq (⟨"MayorsChairModel", "readAll", "()I"⟩, 21) := ⟨⟨by decide +kernel, by decide +kernel⟩, List.mem_of_getElem? (i := 470) (by decide +kernel), List.mem_of_getElem? (i := 573) (by decide +kernel), List.mem_of_getElem? (i := 574) (by decide +kernel)⟩
theorem lw_p7 : lw_okq (⟨"MayorsChairModel", "item", "()Z"⟩, 21) := ⟨⟨by decide +kernel, by decide +kernel⟩, List.mem_of_getElem? (i := 470) (by decide +kernel), List.mem_of_getElem? (i := 577) (by decide +kernel), List.mem_of_getElem? (i := 578) (by decide +kernel)⟩
theorem lw_p8 : lw_okq (⟨"MayorsChairModel", "letterAt", "(I)I"⟩, 21) := ⟨⟨by decide +kernel, by decide +kernel⟩, List.mem_of_getElem? (i := 470) (by decide +kernel), List.mem_of_getElem? (i := 581) (by decide +kernel), List.mem_of_getElem? (i := 582) (by decide +kernel)⟩
theorem lw_p9 : lw_okq (⟨"MayorsChairModel", "numbers", "(I)Z"⟩, 21) := ⟨⟨by decide +kernel, by decide +kernel⟩, List.mem_of_getElem? (i := 470) (by decide +kernel), List.mem_of_getElem? (i := 585) (by decide +kernel), List.mem_of_getElem? (i := 586) (by decide +kernel)⟩
theorem lw_p10 : lw_okq (⟨"MayorsChairModel", "isStreet", "(I)Z"⟩, 21) := ⟨⟨by decide +kernel, by decide +kernel⟩, List.mem_of_getElem? (i := 470) (by decide +kernel), List.mem_of_getElem? (i := 601) (by decide +kernel), List.mem_of_getElem? (i := 602) (by decide +kernel)⟩
theorem lw_p11 : lw_okq (⟨"MayorsChairModel", "aside", "()V"⟩, 21) := ⟨⟨by decide +kernel, by decide +kernel⟩, List.mem_of_getElem? (i := 470) (by decide +kernel), List.mem_of_getElem? (i := 606) (by decide +kernel), List.mem_of_getElem? (i := 607) (by decide +kernel)⟩
theorem lw_p12 : lw_okq (⟨"MayorsChairModel", "looks", "(I)I"⟩, 21) := ⟨⟨by decide +kernel, by decide +kernel⟩, List.mem_of_getElem? (i := 470) (by decide +kernel), List.mem_of_getElem? (i := 610) (by decide +kernel), List.mem_of_getElem? (i := 611) (by decide +kernel)⟩
theorem lw_p13 : lw_okq (⟨"MayorsChairModel", "kindOf", "(I)I"⟩, 21) := ⟨⟨by decide +kernel, by decide +kernel⟩, List.mem_of_getElem? (i := 470) (by decide +kernel), List.mem_of_getElem? (i := 614) (by decide +kernel), List.mem_of_getElem? (i := 615) (by decide +kernel)⟩
theorem lw_p14 : lw_okq (⟨"MayorsChairModel", "isWork", "(I)Z"⟩, 21) := ⟨⟨by decide +kernel, by decide +kernel⟩, List.mem_of_getElem? (i := 470) (by decide +kernel), List.mem_of_getElem? (i := 622) (by decide +kernel), List.mem_of_getElem? (i := 623) (by decide +kernel)⟩
theorem lw_p15 : lw_okq (⟨"MayorsChairModel", "note", "()V"⟩, 21) := ⟨⟨by decide +kernel, by decide +kernel⟩, List.mem_of_getElem? (i := 470) (by decide +kernel), List.mem_of_getElem? (i := 631) (by decide +kernel), List.mem_of_getElem? (i := 632) (by decide +kernel)⟩
def lw_privs_1 : List (MethodName × Nat) := [(⟨"MayorsChair", "poorestHelped", "(III)I"⟩, 7), (⟨"MayorsChair", "chairBehind", "(II)I"⟩, 7), (⟨"MayorsChairModel", "empty", "()V"⟩, 21), (⟨"MayorsChairModel", "streetIs", "(III)V"⟩, 21), (⟨"MayorsChairModel", "workIs", "(I)V"⟩, 21), (⟨"MayorsChairModel", "begin", "()V"⟩, 21), (⟨"MayorsChairModel", "readAll", "()I"⟩, 21), (⟨"MayorsChairModel", "item", "()Z"⟩, 21), (⟨"MayorsChairModel", "letterAt", "(I)I"⟩, 21), (⟨"MayorsChairModel", "numbers", "(I)Z"⟩, 21), (⟨"MayorsChairModel", "isStreet", "(I)Z"⟩, 21), (⟨"MayorsChairModel", "aside", "()V"⟩, 21), (⟨"MayorsChairModel", "looks", "(I)I"⟩, 21), (⟨"MayorsChairModel", "kindOf", "(I)I"⟩, 21), (⟨"MayorsChairModel", "isWork", "(I)Z"⟩, 21), (⟨"MayorsChairModel", "note", "()V"⟩, 21)]
theorem lw_r1 : ∀ q ∈ lw_privs_1, lw_okq q := List.forall_mem_cons.mpr ⟨lw_p0, List.forall_mem_cons.mpr ⟨lw_p1, List.forall_mem_cons.mpr ⟨lw_p2, List.forall_mem_cons.mpr ⟨lw_p3, List.forall_mem_cons.mpr ⟨lw_p4, List.forall_mem_cons.mpr ⟨lw_p5, List.forall_mem_cons.mpr ⟨lw_p6, List.forall_mem_cons.mpr ⟨lw_p7, List.forall_mem_cons.mpr ⟨lw_p8, List.forall_mem_cons.mpr ⟨lw_p9, List.forall_mem_cons.mpr ⟨lw_p10, List.forall_mem_cons.mpr ⟨lw_p11, List.forall_mem_cons.mpr ⟨lw_p12, List.forall_mem_cons.mpr ⟨lw_p13, List.forall_mem_cons.mpr ⟨lw_p14, List.forall_mem_cons.mpr ⟨lw_p15, fun _ h => absurd h List.not_mem_nil⟩⟩⟩⟩⟩⟩⟩⟩⟩⟩⟩⟩⟩⟩⟩⟩
theorem lw_p16 : lw_okq (⟨"MayorsChairModel", "goQuarters", "(I)V"⟩, 21) := ⟨⟨by decide +kernel, by decide +kernel⟩, List.mem_of_getElem? (i := 470) (by decide +kernel), List.mem_of_getElem? (i := 635) (by decide +kernel), List.mem_of_getElem? (i := 636) (by decide +kernel)⟩
theorem lw_p17 : lw_okq (⟨"MayorsChairModel", "goQuarter", "(Z)V"⟩, 21) := ⟨⟨by decide +kernel, by decide +kernel⟩, List.mem_of_getElem? (i := 470) (by decide +kernel), List.mem_of_getElem? (i := 639) (by decide +kernel), List.mem_of_getElem? (i := 640) (by decide +kernel)⟩
theorem lw_p18 : lw_okq (⟨"MayorsChairModel", "usesOf", "(I)I"⟩, 21) := ⟨⟨by decide +kernel, by decide +kernel⟩, List.mem_of_getElem? (i := 470) (by decide +kernel), List.mem_of_getElem? (i := 643) (by decide +kernel), List.mem_of_getElem? (i := 644) (by decide +kernel)⟩
theorem lw_p19 : lw_okq (⟨"MayorsChairModel", "poorest", "(I)I"⟩, 21) := ⟨⟨by decide +kernel, by decide +kernel⟩, List.mem_of_getElem? (i := 470) (by decide +kernel), List.mem_of_getElem? (i := 647) (by decide +kernel), List.mem_of_getElem? (i := 648) (by decide +kernel)⟩
theorem lw_p20 : lw_okq (⟨"MayorsChairModel", "take", "()V"⟩, 21) := ⟨⟨by decide +kernel, by decide +kernel⟩, List.mem_of_getElem? (i := 470) (by decide +kernel), List.mem_of_getElem? (i := 651) (by decide +kernel), List.mem_of_getElem? (i := 652) (by decide +kernel)⟩
theorem lw_p21 : lw_okq (⟨"MayorsChairModel", "goGive", "(III)Z"⟩, 21) := ⟨⟨by decide +kernel, by decide +kernel⟩, List.mem_of_getElem? (i := 470) (by decide +kernel), List.mem_of_getElem? (i := 663) (by decide +kernel), List.mem_of_getElem? (i := 664) (by decide +kernel)⟩
theorem lw_p22 : lw_okq (⟨"MayorsChairModel", "greatest", "()I"⟩, 21) := ⟨⟨by decide +kernel, by decide +kernel⟩, List.mem_of_getElem? (i := 470) (by decide +kernel), List.mem_of_getElem? (i := 689) (by decide +kernel), List.mem_of_getElem? (i := 690) (by decide +kernel)⟩
theorem lw_p23 : lw_okq (⟨"MayorsChairModel", "least", "()I"⟩, 21) := ⟨⟨by decide +kernel, by decide +kernel⟩, List.mem_of_getElem? (i := 470) (by decide +kernel), List.mem_of_getElem? (i := 693) (by decide +kernel), List.mem_of_getElem? (i := 694) (by decide +kernel)⟩
theorem lw_p24 : lw_okq (⟨"MayorsChairModel", "nextOrder", "()Z"⟩, 21) := ⟨⟨by decide +kernel, by decide +kernel⟩, List.mem_of_getElem? (i := 470) (by decide +kernel), List.mem_of_getElem? (i := 702) (by decide +kernel), List.mem_of_getElem? (i := 703) (by decide +kernel)⟩
theorem lw_p25 : lw_okq (⟨"MayorsChairModel", "swap", "(II)V"⟩, 21) := ⟨⟨by decide +kernel, by decide +kernel⟩, List.mem_of_getElem? (i := 470) (by decide +kernel), List.mem_of_getElem? (i := 706) (by decide +kernel), List.mem_of_getElem? (i := 707) (by decide +kernel)⟩
theorem lw_p26 : lw_okq (⟨"MayorsChairModel", "isSeen", "()Z"⟩, 21) := ⟨⟨by decide +kernel, by decide +kernel⟩, List.mem_of_getElem? (i := 470) (by decide +kernel), List.mem_of_getElem? (i := 730) (by decide +kernel), List.mem_of_getElem? (i := 731) (by decide +kernel)⟩
theorem lw_p27 : lw_okq (⟨"MayorsChairModel", "goDrawn", "(I)V"⟩, 21) := ⟨⟨by decide +kernel, by decide +kernel⟩, List.mem_of_getElem? (i := 470) (by decide +kernel), List.mem_of_getElem? (i := 755) (by decide +kernel), List.mem_of_getElem? (i := 756) (by decide +kernel)⟩
theorem lw_p28 : lw_okq (⟨"MayorsChairModel", "wealthOfAll", "()I"⟩, 21) := ⟨⟨by decide +kernel, by decide +kernel⟩, List.mem_of_getElem? (i := 470) (by decide +kernel), List.mem_of_getElem? (i := 759) (by decide +kernel), List.mem_of_getElem? (i := 760) (by decide +kernel)⟩
def lw_privs_2 : List (MethodName × Nat) := [(⟨"MayorsChairModel", "goQuarters", "(I)V"⟩, 21), (⟨"MayorsChairModel", "goQuarter", "(Z)V"⟩, 21), (⟨"MayorsChairModel", "usesOf", "(I)I"⟩, 21), (⟨"MayorsChairModel", "poorest", "(I)I"⟩, 21), (⟨"MayorsChairModel", "take", "()V"⟩, 21), (⟨"MayorsChairModel", "goGive", "(III)Z"⟩, 21), (⟨"MayorsChairModel", "greatest", "()I"⟩, 21), (⟨"MayorsChairModel", "least", "()I"⟩, 21), (⟨"MayorsChairModel", "nextOrder", "()Z"⟩, 21), (⟨"MayorsChairModel", "swap", "(II)V"⟩, 21), (⟨"MayorsChairModel", "isSeen", "()Z"⟩, 21), (⟨"MayorsChairModel", "goDrawn", "(I)V"⟩, 21), (⟨"MayorsChairModel", "wealthOfAll", "()I"⟩, 21)]
theorem lw_r2 : ∀ q ∈ lw_privs_2, lw_okq q := List.forall_mem_cons.mpr ⟨lw_p16, List.forall_mem_cons.mpr ⟨lw_p17, List.forall_mem_cons.mpr ⟨lw_p18, List.forall_mem_cons.mpr ⟨lw_p19, List.forall_mem_cons.mpr ⟨lw_p20, List.forall_mem_cons.mpr ⟨lw_p21, List.forall_mem_cons.mpr ⟨lw_p22, List.forall_mem_cons.mpr ⟨lw_p23, List.forall_mem_cons.mpr ⟨lw_p24, List.forall_mem_cons.mpr ⟨lw_p25, List.forall_mem_cons.mpr ⟨lw_p26, List.forall_mem_cons.mpr ⟨lw_p27, List.forall_mem_cons.mpr ⟨lw_p28, fun _ h => absurd h List.not_mem_nil⟩⟩⟩⟩⟩⟩⟩⟩⟩⟩⟩⟩⟩
def lw_privs : List (MethodName × Nat) := lw_privs_1 ++ (lw_privs_2)
def lw_tbl : List Cond := k2_sels lw_privs ++ tables_1
theorem lw_privs_ok : ∀ q ∈ lw_privs, lw_okq q := by
  show ∀ q ∈ lw_privs_1 ++ (lw_privs_2), lw_okq q
  exact List.forall_mem_append.mpr ⟨lw_r1, lw_r2⟩

def RX0 : String := "MayorsChair$Orders"
def TX0 : u_T := fun k => match k with
  | 0 => ("MayorsChair$Orders", "tried", "[I", true)
  | _ => ("MayorsChair$Orders", "best", "[I", true)
def tyX0 : Nat → FieldType := fun k => match k with
  | 0 => .array .int
  | _ => .array .int
abbrev wsX00 : List Cond := u_ws RX0 TX0 2
theorem nmX0 : ∀ a, a < 2 → ∀ b, b < 2 → a ≠ b → (TX0 a).2.1 ≠ (TX0 b).2.1 := by decide +kernel
theorem tyX0_ok : ∀ k, k < 2 → parseFieldDescriptor (TX0 k).2.2.1 = some (tyX0 k) := by decide +kernel
def RX1 : String := "MayorsChair$Pile"
def TX1 : u_T := fun k => match k with
  | 0 => ("MayorsChair$Pile", "towns", "[LMayorsChair$Town;", true)
  | _ => ("MayorsChair$Pile", "size", "I", false)
def tyX1 : Nat → FieldType := fun k => match k with
  | 0 => .array (.object "MayorsChair$Town")
  | _ => .int
abbrev wsX10 : List Cond := u_ws RX1 TX1 2
theorem nmX1 : ∀ a, a < 2 → ∀ b, b < 2 → a ≠ b → (TX1 a).2.1 ≠ (TX1 b).2.1 := by decide +kernel
theorem tyX1_ok : ∀ k, k < 2 → parseFieldDescriptor (TX1 k).2.2.1 = some (tyX1 k) := by decide +kernel
def RX2 : String := "MayorsChair$Scroll"
def TX2 : u_T := fun k => match k with
  | 0 => ("MayorsChair$Scroll", "letters", "[C", true)
  | 1 => ("MayorsChair$Scroll", "length", "I", false)
  | _ => ("MayorsChair$Scroll", "place", "I", false)
def tyX2 : Nat → FieldType := fun k => match k with
  | 0 => .array .char
  | 1 => .int
  | _ => .int
abbrev wsX20 : List Cond := u_ws RX2 TX2 3
theorem nmX2 : ∀ a, a < 3 → ∀ b, b < 3 → a ≠ b → (TX2 a).2.1 ≠ (TX2 b).2.1 := by decide +kernel
theorem tyX2_ok : ∀ k, k < 3 → parseFieldDescriptor (TX2 k).2.2.1 = some (tyX2 k) := by decide +kernel
def RX3 : String := "MayorsChair$Sightings"
def TX3 : u_T := fun k => match k with
  | 0 => ("MayorsChair$Sightings", "quarters", "[I", true)
  | 1 => ("MayorsChair$Sightings", "places", "[I", true)
  | _ => ("MayorsChair$Sightings", "size", "I", false)
def tyX3 : Nat → FieldType := fun k => match k with
  | 0 => .array .int
  | 1 => .array .int
  | _ => .int
abbrev wsX30 : List Cond := u_ws RX3 TX3 3
theorem nmX3 : ∀ a, a < 3 → ∀ b, b < 3 → a ≠ b → (TX3 a).2.1 ≠ (TX3 b).2.1 := by decide +kernel
theorem tyX3_ok : ∀ k, k < 3 → parseFieldDescriptor (TX3 k).2.2.1 = some (tyX3 k) := by decide +kernel
def RX4 : String := "MayorsChair$Town"
def TX4 : u_T := fun k => match k with
  | 0 => ("MayorsChair$Town", "kind", "[I", true)
  | 1 => ("MayorsChair$Town", "wealth", "[I", true)
  | 2 => ("MayorsChair$Town", "use", "[I", true)
  | 3 => ("MayorsChair$Town", "dirt", "[I", true)
  | 4 => ("MayorsChair$Town", "stood", "[I", true)
  | 5 => ("MayorsChair$Town", "worth", "[I", true)
  | 6 => ("MayorsChair$Town", "streets", "I", false)
  | 7 => ("MayorsChair$Town", "works", "I", false)
  | 8 => ("MayorsChair$Town", "quarter", "I", false)
  | 9 => ("MayorsChair$Town", "chair", "I", false)
  | _ => ("MayorsChair$Town", "firewood", "I", false)
def tyX4 : Nat → FieldType := fun k => match k with
  | 0 => .array .int
  | 1 => .array .int
  | 2 => .array .int
  | 3 => .array .int
  | 4 => .array .int
  | 5 => .array .int
  | 6 => .int
  | 7 => .int
  | 8 => .int
  | 9 => .int
  | _ => .int
abbrev wsX40 : List Cond := u_ws RX4 TX4 11
theorem nmX4 : ∀ a, a < 11 → ∀ b, b < 11 → a ≠ b → (TX4 a).2.1 ≠ (TX4 b).2.1 := by decide +kernel
theorem tyX4_ok : ∀ k, k < 11 → parseFieldDescriptor (TX4 k).2.2.1 = some (tyX4 k) := by decide +kernel
def RX5 : String := "MayorsChair"
def TX5 : u_T := fun k => match k with
  | 0 => ("MayorsChair", "scroll", "LMayorsChair$Scroll;", true)
  | 1 => ("MayorsChair", "town", "LMayorsChair$Town;", true)
  | 2 => ("MayorsChair", "trial", "LMayorsChair$Town;", true)
  | 3 => ("MayorsChair", "past", "LMayorsChair$Pile;", true)
  | 4 => ("MayorsChair", "store", "LMayorsChair$Pile;", true)
  | 5 => ("MayorsChair", "sightings", "LMayorsChair$Sightings;", true)
  | _ => ("MayorsChair", "orders", "LMayorsChair$Orders;", true)
def tyX5 : Nat → FieldType := fun k => match k with
  | 0 => .object "MayorsChair$Scroll"
  | 1 => .object "MayorsChair$Town"
  | 2 => .object "MayorsChair$Town"
  | 3 => .object "MayorsChair$Pile"
  | 4 => .object "MayorsChair$Pile"
  | 5 => .object "MayorsChair$Sightings"
  | _ => .object "MayorsChair$Orders"
abbrev wsX50 : List Cond := u_ws RX5 TX5 7
theorem nmX5 : ∀ a, a < 7 → ∀ b, b < 7 → a ≠ b → (TX5 a).2.1 ≠ (TX5 b).2.1 := by decide +kernel
theorem tyX5_ok : ∀ k, k < 7 → parseFieldDescriptor (TX5 k).2.2.1 = some (tyX5 k) := by decide +kernel
def RX6 : String := "MayorsChairModel"
def TX6 : u_T := fun k => match k with
  | 0 => ("MayorsChairModel", "length", "I", false)
  | 1 => ("MayorsChairModel", "text", "[I", true)
  | 2 => ("MayorsChairModel", "told", "[I", true)
  | 3 => ("MayorsChairModel", "read", "[I", true)
  | 4 => ("MayorsChairModel", "readRow", "[I", true)
  | 5 => ("MayorsChairModel", "now", "[I", true)
  | 6 => ("MayorsChairModel", "side", "[I", true)
  | 7 => ("MayorsChairModel", "before", "[I", true)
  | 8 => ("MayorsChairModel", "undoMany", "I", false)
  | 9 => ("MayorsChairModel", "kept", "[I", true)
  | 10 => ("MayorsChairModel", "keptMany", "I", false)
  | 11 => ("MayorsChairModel", "noted", "[I", true)
  | 12 => ("MayorsChairModel", "notedMany", "I", false)
  | 13 => ("MayorsChairModel", "spot", "I", false)
  | 14 => ("MayorsChairModel", "number", "[I", true)
  | 15 => ("MayorsChairModel", "otherOne", "I", false)
  | 16 => ("MayorsChairModel", "otherKind", "I", false)
  | 17 => ("MayorsChairModel", "otherUser", "I", false)
  | 18 => ("MayorsChairModel", "otherUse", "I", false)
  | 19 => ("MayorsChairModel", "order", "[I", true)
  | _ => ("MayorsChairModel", "bestOrder", "[I", true)
def tyX6 : Nat → FieldType := fun k => match k with
  | 0 => .int
  | 1 => .array .int
  | 2 => .array .int
  | 3 => .array .int
  | 4 => .array .int
  | 5 => .array .int
  | 6 => .array .int
  | 7 => .array .int
  | 8 => .int
  | 9 => .array .int
  | 10 => .int
  | 11 => .array .int
  | 12 => .int
  | 13 => .int
  | 14 => .array .int
  | 15 => .int
  | 16 => .int
  | 17 => .int
  | 18 => .int
  | 19 => .array .int
  | _ => .array .int
abbrev wsX60 : List Cond := u_ws RX6 TX6 21
theorem nmX6 : ∀ a, a < 21 → ∀ b, b < 21 → a ≠ b → (TX6 a).2.1 ≠ (TX6 b).2.1 := by decide +kernel
theorem tyX6_ok : ∀ k, k < 21 → parseFieldDescriptor (TX6 k).2.2.1 = some (tyX6 k) := by decide +kernel
abbrev vwCl : List vw_C := [(RX0, TX0, 2), (RX1, TX1, 2), (RX2, TX2, 3), (RX3, TX3, 3), (RX4, TX4, 11), (RX5, TX5, 7), (RX6, TX6, 21)]
end
section
def ms_CN : List String := ["MayorsChair$Orders", "MayorsChair$Pile", "MayorsChair$Scroll", "MayorsChair$Sightings", "MayorsChair$Town", "MayorsChair", "MayorsChairModel", "MayorsChairLaw", "java/lang/Math", "java/lang/Integer"]
def ms_cn (o : Nat) : String := ms_CN.getD o ""
def ms_Yl : List (MethodName) := [⟨"MayorsChair$Orders", "<init>", "()V"⟩, ⟨"MayorsChair$Orders", "findBest", "(LMayorsChair$Town;LMayorsChair$Town;I)I"⟩, ⟨"MayorsChair$Orders", "putOtherwise", "(LMayorsChair$Town;LMayorsChair$Town;)V"⟩, ⟨"MayorsChair$Orders", "noteBest", "()V"⟩, ⟨"MayorsChair$Orders", "advance", "(I)Z"⟩, ⟨"MayorsChair$Orders", "swap", "(II)V"⟩, ⟨"MayorsChair$Pile", "<init>", "(I)V"⟩, ⟨"MayorsChair$Pile", "put", "(LMayorsChair$Town;)V"⟩, ⟨"MayorsChair$Pile", "dropLowest", "()V"⟩, ⟨"MayorsChair$Pile", "takeInto", "(LMayorsChair$Town;)Z"⟩, ⟨"MayorsChair$Scroll", "<init>", "()V"⟩, ⟨"MayorsChair$Scroll", "append", "(C)Z"⟩, ⟨"MayorsChair$Scroll", "readInto", "(LMayorsChair$Town;)I"⟩, ⟨"MayorsChair$Scroll", "readItem", "(LMayorsChair$Town;)Z"⟩, ⟨"MayorsChair$Scroll", "takes", "(C)Z"⟩, ⟨"MayorsChair$Scroll", "number", "(C)I"⟩, ⟨"MayorsChair$Scroll", "figure", "()I"⟩, ⟨"MayorsChair$Sightings", "<init>", "()V"⟩, ⟨"MayorsChair$Sightings", "append", "(II)Z"⟩, ⟨"MayorsChair$Sightings", "comeTrueIn", "(LMayorsChair$Town;)Z"⟩, ⟨"MayorsChair$Sightings", "agree", "(II)Z"⟩, ⟨"MayorsChair$Town", "<init>", "()V"⟩, ⟨"MayorsChair$Town", "addStreet", "(III)Z"⟩, ⟨"MayorsChair$Town", "addWork", "(I)Z"⟩, ⟨"MayorsChair$Town", "empty", "()V"⟩, ⟨"MayorsChair$Town", "become", "(LMayorsChair$Town;)V"⟩, ⟨"MayorsChair$Town", "hasStreet", "(I)Z"⟩, ⟨"MayorsChair$Town", "looks", "(I)I"⟩, ⟨"MayorsChair$Town", "hasWork", "(I)Z"⟩, ⟨"MayorsChair$Town", "letPass", "(I)V"⟩, ⟨"MayorsChair$Town", "nextQuarter", "(Z)V"⟩, ⟨"MayorsChair$Town", "poorestLooking", "(I)I"⟩, ⟨"MayorsChair$Town", "stand", "(I)V"⟩, ⟨"MayorsChair$Town", "worthNow", "()I"⟩, ⟨"MayorsChair$Town", "turn", "()I"⟩, ⟨"MayorsChair$Town", "enrich", "(II)V"⟩, ⟨"MayorsChair$Town", "canHand", "(III)Z"⟩, ⟨"MayorsChair$Town", "hand", "(III)V"⟩, ⟨"MayorsChair$Town", "richestWealth", "()I"⟩, ⟨"MayorsChair$Town", "poorestWealth", "()I"⟩, ⟨"MayorsChair$Town", "suffer", "(I)V"⟩, ⟨"MayorsChair$Town", "totalWealth", "()I"⟩, ⟨"MayorsChair", "<init>", "()V"⟩, ⟨"MayorsChair", "within", "(III)Z"⟩, ⟨"MayorsChair", "write", "(I)I"⟩, ⟨"MayorsChair", "wipe", "()I"⟩, ⟨"MayorsChair", "fault", "()I"⟩, ⟨"MayorsChair", "lay", "()I"⟩, ⟨"MayorsChair", "street", "(II)I"⟩, ⟨"MayorsChair", "work", "(I)I"⟩, ⟨"MayorsChair", "pass", "(I)I"⟩, ⟨"MayorsChair", "mud", "(II)I"⟩, ⟨"MayorsChair", "give", "(III)I"⟩, ⟨"MayorsChair", "change", "(II)I"⟩, ⟨"MayorsChair", "undo", "()I"⟩, ⟨"MayorsChair", "behind", "(III)I"⟩, ⟨"MayorsChair", "first", "(I)I"⟩, ⟨"MayorsChair", "even", "(I)I"⟩, ⟨"MayorsChair", "order", "(II)I"⟩, ⟨"MayorsChair", "paint", "(I)I"⟩, ⟨"MayorsChair", "help", "(III)I"⟩, ⟨"MayorsChair", "poorestHelped", "(III)I"⟩, ⟨"MayorsChair", "seen", "(II)I"⟩, ⟨"MayorsChair", "forget", "()I"⟩, ⟨"MayorsChair", "kinds", "(I)I"⟩, ⟨"MayorsChair", "uses", "(I)I"⟩, ⟨"MayorsChair", "likely", "(IIII)I"⟩, ⟨"MayorsChair", "chairBehind", "(II)I"⟩, ⟨"MayorsChair", "power", "(II)I"⟩, ⟨"MayorsChair", "greatestCommon", "(II)I"⟩, ⟨"MayorsChair", "decade", "(III)I"⟩, ⟨"MayorsChair", "draw", "(II)I"⟩, ⟨"MayorsChair", "keep", "()I"⟩, ⟨"MayorsChair", "back", "()I"⟩, ⟨"MayorsChair", "count", "(I)I"⟩, ⟨"MayorsChairModel", "<init>", "()V"⟩, ⟨"MayorsChairModel", "empty", "()V"⟩, ⟨"MayorsChairModel", "streetIs", "(III)V"⟩, ⟨"MayorsChairModel", "workIs", "(I)V"⟩, ⟨"MayorsChairModel", "begin", "()V"⟩, ⟨"MayorsChairModel", "write", "(I)I"⟩, ⟨"MayorsChairModel", "in", "(JJJ)Z"⟩, ⟨"MayorsChairModel", "wipe", "()I"⟩, ⟨"MayorsChairModel", "fault", "()I"⟩, ⟨"MayorsChairModel", "readAll", "()I"⟩, ⟨"MayorsChairModel", "item", "()Z"⟩, ⟨"MayorsChairModel", "letterAt", "(I)I"⟩, ⟨"MayorsChairModel", "numbers", "(I)Z"⟩, ⟨"MayorsChairModel", "lay", "()I"⟩, ⟨"MayorsChairModel", "street", "(II)I"⟩, ⟨"MayorsChairModel", "isStreet", "(I)Z"⟩, ⟨"MayorsChairModel", "aside", "()V"⟩, ⟨"MayorsChairModel", "looks", "(I)I"⟩, ⟨"MayorsChairModel", "kindOf", "(I)I"⟩, ⟨"MayorsChairModel", "work", "(I)I"⟩, ⟨"MayorsChairModel", "isWork", "(I)Z"⟩, ⟨"MayorsChairModel", "pass", "(I)I"⟩, ⟨"MayorsChairModel", "note", "()V"⟩, ⟨"MayorsChairModel", "goQuarters", "(I)V"⟩, ⟨"MayorsChairModel", "goQuarter", "(Z)V"⟩, ⟨"MayorsChairModel", "usesOf", "(I)I"⟩, ⟨"MayorsChairModel", "poorest", "(I)I"⟩, ⟨"MayorsChairModel", "take", "()V"⟩, ⟨"MayorsChairModel", "mud", "(II)I"⟩, ⟨"MayorsChairModel", "give", "(III)I"⟩, ⟨"MayorsChairModel", "goGive", "(III)Z"⟩, ⟨"MayorsChairModel", "change", "(II)I"⟩, ⟨"MayorsChairModel", "undo", "()I"⟩, ⟨"MayorsChairModel", "behind", "(III)I"⟩, ⟨"MayorsChairModel", "first", "(I)I"⟩, ⟨"MayorsChairModel", "even", "(I)I"⟩, ⟨"MayorsChairModel", "greatest", "()I"⟩, ⟨"MayorsChairModel", "least", "()I"⟩, ⟨"MayorsChairModel", "order", "(II)I"⟩, ⟨"MayorsChairModel", "nextOrder", "()Z"⟩, ⟨"MayorsChairModel", "swap", "(II)V"⟩, ⟨"MayorsChairModel", "paint", "(I)I"⟩, ⟨"MayorsChairModel", "help", "(III)I"⟩, ⟨"MayorsChairModel", "seen", "(II)I"⟩, ⟨"MayorsChairModel", "forget", "()I"⟩, ⟨"MayorsChairModel", "kinds", "(I)I"⟩, ⟨"MayorsChairModel", "isSeen", "()Z"⟩, ⟨"MayorsChairModel", "uses", "(I)I"⟩, ⟨"MayorsChairModel", "likely", "(IIII)I"⟩, ⟨"MayorsChairModel", "has", "(II)Z"⟩, ⟨"MayorsChairModel", "decade", "(III)I"⟩, ⟨"MayorsChairModel", "goDrawn", "(I)V"⟩, ⟨"MayorsChairModel", "wealthOfAll", "()I"⟩, ⟨"MayorsChairModel", "keep", "()I"⟩, ⟨"MayorsChairModel", "back", "()I"⟩, ⟨"MayorsChairModel", "count", "(I)I"⟩, ⟨"java/lang/Math", "max", "(II)I"⟩, ⟨"java/lang/Math", "min", "(II)I"⟩, ⟨"java/lang/Integer", "bitCount", "(I)I"⟩, ⟨"MayorsChairLaw", "law", "([I)Z"⟩]
def ms_Y (y : Nat) : MethodName := ms_Yl.getD y ⟨"", "", ""⟩
def ms_Bl : List (ByteArray) := [prog_2_method_1_code, prog_2_method_2_code, prog_2_method_3_code, prog_2_method_4_code, prog_2_method_5_code, prog_2_method_6_code, prog_3_method_1_code, prog_3_method_2_code, prog_3_method_3_code, prog_3_method_4_code, prog_4_method_1_code, prog_4_method_2_code, prog_4_method_3_code, prog_4_method_4_code, prog_4_method_5_code, prog_4_method_6_code, prog_4_method_7_code, prog_5_method_1_code, prog_5_method_2_code, prog_5_method_3_code, prog_5_method_4_code, prog_6_method_1_code, prog_6_method_3_code, prog_6_method_4_code, prog_6_method_2_code, prog_6_method_5_code, prog_6_method_6_code, prog_6_method_10_code, prog_6_method_7_code, prog_6_method_11_code, prog_6_method_12_code, prog_6_method_13_code, prog_6_method_14_code, prog_6_method_9_code, prog_6_method_8_code, prog_6_method_15_code, prog_6_method_16_code, prog_6_method_17_code, prog_6_method_20_code, prog_6_method_19_code, prog_6_method_18_code, prog_6_method_21_code, prog_1_method_1_code, prog_1_method_33_code, prog_1_method_2_code, prog_1_method_3_code, prog_1_method_4_code, prog_1_method_5_code, prog_1_method_6_code, prog_1_method_7_code, prog_1_method_8_code, prog_1_method_9_code, prog_1_method_10_code, prog_1_method_11_code, prog_1_method_12_code, prog_1_method_13_code, prog_1_method_14_code, prog_1_method_15_code, prog_1_method_16_code, prog_1_method_17_code, prog_1_method_18_code, prog_1_method_19_code, prog_1_method_20_code, prog_1_method_21_code, prog_1_method_22_code, prog_1_method_23_code, prog_1_method_24_code, prog_1_method_25_code, prog_1_method_26_code, prog_1_method_27_code, prog_1_method_28_code, prog_1_method_29_code, prog_1_method_30_code, prog_1_method_31_code, prog_1_method_32_code, prog_8_method_1_code, prog_8_method_4_code, prog_8_method_5_code, prog_8_method_6_code, prog_8_method_15_code, prog_8_method_7_code, prog_8_method_2_code, prog_8_method_8_code, prog_8_method_13_code, prog_8_method_12_code, prog_8_method_11_code, prog_8_method_9_code, prog_8_method_10_code, prog_8_method_14_code, prog_8_method_29_code, prog_8_method_16_code, prog_8_method_18_code, prog_8_method_22_code, prog_8_method_20_code, prog_8_method_30_code, prog_8_method_17_code, prog_8_method_32_code, prog_8_method_31_code, prog_8_method_25_code, prog_8_method_24_code, prog_8_method_21_code, prog_8_method_23_code, prog_8_method_19_code, prog_8_method_33_code, prog_8_method_35_code, prog_8_method_34_code, prog_8_method_36_code, prog_8_method_37_code, prog_8_method_38_code, prog_8_method_39_code, prog_8_method_40_code, prog_8_method_27_code, prog_8_method_26_code, prog_8_method_43_code, prog_8_method_41_code, prog_8_method_42_code, prog_8_method_44_code, prog_8_method_45_code, prog_8_method_46_code, prog_8_method_47_code, prog_8_method_49_code, prog_8_method_48_code, prog_8_method_50_code, prog_8_method_51_code, prog_8_method_3_code, prog_8_method_53_code, prog_8_method_52_code, prog_8_method_28_code, prog_8_method_54_code, prog_8_method_55_code, prog_8_method_56_code, prog_10_method_65_code, prog_10_method_69_code, prog_9_method_49_code, code]
def ms_B (y : Nat) : ByteArray := ms_Bl.getD y ⟨#[]⟩
def ms_Ll : List (Nat) := [1, 8, 4, 2, 6, 4, 3, 2, 3, 2, 1, 2, 4, 5, 2, 4, 2, 1, 3, 4, 4, 1, 4, 2, 1, 3, 2, 3, 2, 3, 3, 6, 2, 2, 1, 3, 4, 4, 3, 3, 4, 3, 1, 3, 2, 2, 1, 1, 3, 2, 2, 4, 4, 4, 1, 4, 3, 3, 4, 3, 8, 4, 3, 2, 4, 4, 8, 4, 4, 6, 5, 4, 1, 1, 2, 1, 2, 4, 2, 2, 2, 6, 2, 1, 2, 2, 2, 5, 1, 3, 2, 2, 5, 2, 2, 2, 2, 2, 3, 6, 2, 4, 2, 4, 4, 4, 4, 2, 4, 3, 3, 3, 3, 7, 6, 4, 3, 9, 3, 2, 3, 4, 3, 10, 2, 7, 6, 3, 2, 2, 2, 2, 2, 1, 4]
def ms_L (y : Nat) : Nat := ms_Ll.getD y 0
def ms_Rl : List (Option FieldType) := [none, (some .int), none, none, (some .boolean), none, none, none, none, (some .boolean), none, (some .boolean), (some .int), (some .boolean), (some .boolean), (some .int), (some .int), none, (some .boolean), (some .boolean), (some .boolean), none, (some .boolean), (some .boolean), none, none, (some .boolean), (some .int), (some .boolean), none, none, (some .int), none, (some .int), (some .int), none, (some .boolean), none, (some .int), (some .int), none, (some .int), none, (some .boolean), (some .int), (some .int), (some .int), (some .int), (some .int), (some .int), (some .int), (some .int), (some .int), (some .int), (some .int), (some .int), (some .int), (some .int), (some .int), (some .int), (some .int), (some .int), (some .int), (some .int), (some .int), (some .int), (some .int), (some .int), (some .int), (some .int), (some .int), (some .int), (some .int), (some .int), (some .int), none, none, none, none, none, (some .int), (some .boolean), (some .int), (some .int), (some .int), (some .boolean), (some .int), (some .boolean), (some .int), (some .int), (some .boolean), none, (some .int), (some .int), (some .int), (some .boolean), (some .int), none, none, none, (some .int), (some .int), none, (some .int), (some .int), (some .boolean), (some .int), (some .int), (some .int), (some .int), (some .int), (some .int), (some .int), (some .int), (some .boolean), none, (some .int), (some .int), (some .int), (some .int), (some .int), (some .boolean), (some .int), (some .int), (some .boolean), (some .int), none, (some .int), (some .int), (some .int), (some .int), (some .int), (some .int), (some .int), (some .boolean)]
def ms_R (y : Nat) : Option FieldType := ms_Rl.getD y none
def ms_Ol : List (Nat) := [0, 0, 0, 0, 0, 0, 1, 1, 1, 1, 2, 2, 2, 2, 2, 2, 2, 3, 3, 3, 3, 4, 4, 4, 4, 4, 4, 4, 4, 4, 4, 4, 4, 4, 4, 4, 4, 4, 4, 4, 4, 4, 5, 5, 5, 5, 5, 5, 5, 5, 5, 5, 5, 5, 5, 5, 5, 5, 5, 5, 5, 5, 5, 5, 5, 5, 5, 5, 5, 5, 5, 5, 5, 5, 5, 6, 6, 6, 6, 6, 6, 6, 6, 6, 6, 6, 6, 6, 6, 6, 6, 6, 6, 6, 6, 6, 6, 6, 6, 6, 6, 6, 6, 6, 6, 6, 6, 6, 6, 6, 6, 6, 6, 6, 6, 6, 6, 6, 6, 6, 6, 6, 6, 6, 6, 6, 6, 6, 6, 6, 6, 8, 8, 9, 7]
def ms_O (y : Nat) : Nat := ms_Ol.getD y 0
def ms_Al : List (Nat) := [1, 4, 3, 1, 2, 3, 2, 2, 1, 2, 1, 2, 2, 2, 2, 2, 1, 1, 3, 2, 3, 1, 4, 2, 1, 2, 2, 2, 2, 2, 2, 2, 2, 1, 1, 3, 4, 4, 1, 1, 2, 1, 1, 3, 2, 1, 1, 1, 3, 2, 2, 3, 4, 3, 1, 4, 2, 2, 3, 2, 4, 4, 3, 1, 2, 2, 5, 3, 2, 2, 4, 2, 1, 1, 2, 1, 1, 4, 2, 1, 2, 3, 1, 1, 1, 1, 2, 2, 1, 3, 2, 1, 2, 2, 2, 2, 2, 1, 2, 2, 2, 2, 1, 3, 4, 4, 3, 1, 4, 2, 2, 1, 1, 3, 1, 3, 2, 4, 3, 1, 2, 1, 2, 5, 2, 4, 2, 1, 1, 1, 2, 2, 2, 1, 2]
def ms_A (y : Nat) : Nat := ms_Al.getD y 0
def ms_Fl : List (Nat) := [1, 5, 1, 0, 1, 0, 2, 1, 0, 1, 1, 0, 3, 2, 0, 1, 0, 1, 0, 4, 0, 1, 1, 1, 0, 0, 0, 1, 0, 4, 3, 2, 2, 1, 0, 1, 0, 0, 1, 1, 1, 0, 3, 0, 1, 0, 4, 4, 2, 1, 5, 2, 2, 2, 2, 5, 4, 4, 6, 4, 6, 5, 1, 0, 5, 5, 5, 4, 0, 0, 4, 0, 2, 2, 1, 1, 0, 0, 0, 0, 1, 0, 0, 4, 3, 2, 0, 1, 4, 2, 1, 0, 1, 0, 2, 1, 5, 0, 4, 3, 0, 2, 0, 2, 2, 0, 2, 0, 5, 4, 4, 0, 0, 5, 1, 0, 4, 5, 2, 0, 5, 4, 5, 4, 0, 4, 1, 0, 0, 0, 1, 0, 0, 0, 7]
def ms_F (y : Nat) : Nat := ms_Fl.getD y 0
def ms_Wl : List (Nat) := [12, 112, 22, 0, 23, 0, 32, 22, 0, 22, 12, 0, 69, 45, 0, 21, 0, 12, 0, 90, 0, 12, 22, 22, 0, 0, 0, 21, 0, 90, 68, 43, 43, 21, 0, 21, 0, 0, 21, 21, 23, 0, 54, 0, 22, 0, 92, 92, 43, 21, 112, 43, 43, 43, 43, 112, 90, 90, 139, 90, 135, 112, 22, 0, 113, 113, 113, 90, 0, 0, 90, 0, 43, 43, 22, 23, 0, 0, 0, 0, 25, 0, 0, 91, 70, 49, 0, 25, 91, 46, 25, 0, 21, 0, 46, 25, 115, 0, 93, 68, 0, 45, 0, 46, 46, 0, 46, 0, 115, 93, 93, 0, 0, 115, 23, 0, 93, 115, 46, 0, 116, 93, 116, 93, 0, 93, 23, 0, 0, 0, 22, 0, 0, 0, 162]
def ms_W (y : Nat) : Nat := ms_Wl.getD y 0
def ms_fl : List (Nat × Nat × Nat) := [(2009, 2, 0), (2015, 2, 1), (5067, 2, 1), (2024, 2, 2), (4009, 4, 0), (5092, 4, 0), (4015, 4, 1), (5096, 4, 1), (4018, 4, 2), (5099, 4, 2), (4021, 4, 3), (5106, 4, 3), (4024, 4, 4), (5109, 4, 4), (4027, 4, 5), (47, 4, 5), (5115, 4, 5), (4034, 4, 6), (5075, 4, 6), (18, 4, 7), (4037, 4, 7), (5078, 4, 7), (4040, 4, 8), (5118, 4, 8), (4030, 4, 9), (3034, 4, 9), (5127, 4, 9), (4043, 4, 10), (5196, 4, 10), (1015, 1, 0), (1022, 1, 1), (5085, 1, 1), (3009, 3, 0), (3015, 3, 1), (3018, 3, 2), (5088, 3, 2), (9, 0, 0), (15, 0, 1), (5159, 0, 1), (5010, 5, 0), (5019, 5, 1), (5023, 5, 2), (5031, 5, 3), (5035, 5, 4), (5041, 5, 5), (5048, 5, 6), (6075, 6, 0), (6007, 6, 1), (6013, 6, 2), (6016, 6, 3), (6019, 6, 4), (6022, 6, 5), (6025, 6, 6), (6028, 6, 7), (6108, 6, 8), (6031, 6, 9), (6111, 6, 10), (6034, 6, 11), (6105, 6, 12), (6078, 6, 13), (6037, 6, 14), (6040, 6, 15), (6114, 6, 16), (6044, 6, 17), (6117, 6, 18), (6047, 6, 19), (6050, 6, 20)]
def ms_f (o i : Nat) : Option (Nat × Nat) := ms_fl.lookup (o * 1000 + i)
def ms_cl : List (Nat × Nat × Nat) := [(7009, 42, 2), (5001, 0, 4), (5009, 10, 2), (2003, 0, 4), (5018, 21, 2), (4003, 0, 4), (5028, 6, 2), (1001, 0, 4), (1007, 131, 1), (1021, 21, 2), (5040, 17, 2), (3003, 0, 4), (5047, 0, 2), (3, 0, 4), (5052, 22, 0), (5056, 23, 0), (7013, 44, 0), (5060, 43, 1), (5063, 11, 0), (7018, 45, 0), (7023, 46, 0), (5071, 12, 0), (2019, 24, 0), (2027, 13, 0), (2031, 14, 0), (2035, 15, 0), (2047, 16, 0), (2039, 22, 0), (2043, 23, 0), (7027, 47, 0), (5081, 25, 0), (7031, 48, 0), (5089, 26, 0), (5102, 27, 0), (4058, 131, 1), (7036, 49, 0), (5112, 28, 0), (7040, 50, 0), (5121, 7, 0), (1026, 8, 0), (1029, 25, 0), (5124, 29, 0), (4064, 30, 0), (4068, 31, 0), (4076, 27, 0), (4072, 32, 0), (4079, 26, 0), (4082, 33, 0), (4050, 34, 0), (4054, 28, 0), (4085, 35, 0), (4089, 132, 1), (7044, 51, 0), (7048, 52, 0), (5130, 36, 0), (5133, 37, 0), (7053, 53, 0), (5137, 33, 0), (7057, 54, 0), (5141, 9, 0), (7061, 55, 0), (7065, 56, 0), (5145, 30, 0), (7069, 57, 0), (5149, 38, 0), (5152, 39, 0), (7073, 58, 0), (5155, 1, 0), (24, 2, 0), (43, 25, 0), (28, 29, 0), (32, 39, 0), (36, 3, 0), (39, 4, 0), (50, 5, 0), (7077, 59, 0), (7081, 60, 0), (5162, 61, 0), (5166, 35, 0), (7085, 62, 0), (5170, 18, 0), (7089, 63, 0), (7093, 64, 0), (5173, 19, 0), (3022, 131, 1), (3028, 30, 0), (3037, 20, 0), (7097, 65, 0), (7101, 66, 0), (5176, 67, 0), (5180, 133, 1), (5185, 68, 1), (5188, 69, 1), (5191, 131, 1), (7106, 70, 0), (5199, 71, 1), (5202, 40, 0), (4092, 36, 0), (4095, 37, 0), (5205, 41, 0), (7110, 72, 0), (7114, 73, 0), (7118, 74, 0), (5216, 34, 0), (7012, 75, 2), (6001, 0, 4), (6053, 76, 0), (6056, 77, 0), (6060, 78, 0), (6064, 79, 0), (7017, 80, 0), (6071, 81, 1), (7022, 82, 0), (7026, 83, 0), (6101, 84, 0), (6097, 85, 0), (6081, 86, 0), (6091, 87, 0), (7030, 88, 0), (7035, 89, 0), (6136, 90, 0), (6141, 91, 0), (6123, 92, 0), (6120, 93, 0), (7039, 94, 0), (6144, 95, 0), (7043, 96, 0), (6149, 97, 0), (6152, 98, 0), (6132, 99, 0), (6126, 100, 0), (6129, 101, 0), (6155, 102, 0), (7047, 103, 0), (7052, 104, 0), (6158, 105, 0), (7056, 106, 0), (7060, 107, 0), (7064, 108, 0), (7068, 109, 0), (7072, 110, 0), (6166, 111, 0), (6169, 112, 0), (7076, 113, 0), (6178, 114, 0), (6172, 115, 0), (7080, 116, 0), (7084, 117, 0), (7088, 118, 0), (7092, 119, 0), (7096, 120, 0), (6181, 121, 0), (7100, 122, 0), (7105, 123, 0), (6188, 124, 1), (7109, 125, 0), (6200, 126, 0), (6203, 127, 0), (7113, 128, 0), (7117, 129, 0), (7121, 130, 0), (4046, 43, 3)]
def ms_c (o i : Nat) : Option (Nat × Nat) := ms_cl.lookup (o * 1000 + i)
def ms_gl : List (Nat × Int64) := [(5208, 7919), (5210, 6151), (5212, 65521), (5214, 2), (6067, 32), (6069, 126), (6085, 48), (6087, 57), (6089, 2), (6095, 40), (6139, 5), (6147, 20), (6162, 60), (6164, 99), (6176, -1), (6184, 8), (6186, 10), (6192, 9999), (6194, 7919), (6196, 6151), (6198, 65521)]
def ms_g (o i : Nat) : Option Int64 := ms_gl.lookup (o * 1000 + i)
def ms_il : List (Nat × Int32) := [(9265, 1431655765), (9266, 858993459), (9267, 252645135)]
def ms_i (o i : Nat) : Option Int32 := ms_il.lookup (o * 1000 + i)
def ms_nl : List (Nat × Nat) := [(7007, 5), (5007, 2), (5016, 4), (5026, 1), (1013, 4), (5038, 3), (5045, 0), (7010, 6)]
def ms_n (o i : Nat) : Option Nat := ms_nl.lookup (o * 1000 + i)
def ms_dl : List (List Value) := [[.null, .null], [.null, .int 0], [.null, .int 0, .int 0], [.null, .null, .int 0], [.null, .null, .null, .null, .null, .null, .int 0, .int 0, .int 0, .int 0, .int 0], [.null, .null, .null, .null, .null, .null, .null], [.int 0, .null, .null, .null, .null, .null, .null, .null, .int 0, .null, .int 0, .null, .int 0, .int 0, .null, .int 0, .int 0, .int 0, .int 0, .null, .null]]
def ms_d (ci : Nat) : List Value := ms_dl.getD ci []
end
section
-- the small machine: its cells, its step, its runs
abbrev ms_C : Type := (Nat × List Value) ⊕ (Bool × List Int32) ⊕ List (Option Nat)
abbrev ms_Rs : Type := Option Value × List ms_C
def ms_obj (ci : Nat) (fs : List Value) : ms_C := .inl (ci, fs)
def ms_ia (l : List Int32) : ms_C := .inr (.inl (false, l))
def ms_ca (l : List Int32) : ms_C := .inr (.inl (true, l))
def ms_ra (l : List (Option Nat)) : ms_C := .inr (.inr l)
/-- the locals with a value of one slot put in place i -/
def ms_set (L : List (Option Value)) (i : Nat) (v : Value) : Option (List (Option Value)) :=
  if i < L.length then
    match i with
    | 0 => some (L.set 0 (some v))
    | j + 1 => match L[j]? with
      | some (some (.long _)) => none
      | _ => some (L.set (j + 1) (some v))
  else none
def ms_set2 (L : List (Option Value)) (i : Nat) (v : Value) : Option (List (Option Value)) :=
  if i + 1 < L.length then
    match i with
    | 0 => some ((L.set 0 (some v)).set 1 none)
    | j + 1 => match L[j]? with
      | some (some (.long _)) => none
      | _ => some ((L.set (j + 1) (some v)).set (j + 2) none)
  else none
def ms_args : List Value → List (Option Value)
  | [] => []
  | .long x :: vs => some (.long x) :: none :: ms_args vs
  | v :: vs => some v :: ms_args vs
def ms_init (vs : List Value) (n : Nat) : List (Option Value) := ms_args vs ++ List.replicate (n - (ms_args vs).length) none
def ms_cmp (c : ClassFile.Cond) (x y : Int32) : Prop := match c with
  | .eq => x = y
  | .ne => ¬ x = y
  | .lt => x < y
  | .ge => y ≤ x
  | .gt => y < x
  | .le => x ≤ y
def ms_cmpD (c : ClassFile.Cond) (x y : Int32) : Decidable (ms_cmp c x y) := match c with
  | .eq => inferInstanceAs (Decidable (x = y))
  | .ne => inferInstanceAs (Decidable (¬ x = y))
  | .lt => inferInstanceAs (Decidable (x < y))
  | .ge => inferInstanceAs (Decidable (y ≤ x))
  | .gt => inferInstanceAs (Decidable (y < x))
  | .le => inferInstanceAs (Decidable (x ≤ y))
def ms_go (pc : Nat) (off : Int) (K : Nat → Option ms_Rs) : Option ms_Rs := match (pc : Int) + off with
  | .ofNat t => K t
  | _ => none
/-- does a value fit a field of that descriptor -/
def ms_fit (d : String) (v : Value) : Bool := match v with
  | .int _ => d == "I"
  | .ref _ => d != "I"
  | _ => false
def ms_one (v : Value) : Bool := match v with
  | .long _ => false
  | .double _ => false
  | _ => true
def ms_get (h : List ms_C) (a : Nat) (ci k : Nat) : Option Value := match h[a]? with
  | some (.inl (cj, fs)) => if cj = ci then fs[k]? else none
  | _ => none
def ms_iat (i : Int32) (n : Nat) : Option Nat := if i < 0 ∨ n ≤ i.toNatClampNeg then none else some i.toNatClampNeg
def ms_lens : Instr → Nat
  | .bipush _ | .ldc _ | .iload _ | .lload _ | .aload _ | .istore _ | .lstore _ | .astore _ | .newarray _ => 2
  | .sipush _ | .ldc2_w _ | .ldc_w _ | .iinc _ _ | .goto _ | .ifCond _ _ | .if_icmp _ _ | .getfield _ | .putfield _ | .invokevirtual _ | .invokespecial _ | .invokestatic _ | .new _ | .anewarray _ => 3
  | _ => 1
def ms_call (y pc : Nat) (K : Nat → List (Option Value) → List Value → List ms_C → Option ms_Rs) (CA : Nat → List (Option Value) → List ms_C → Option ms_Rs) (kind z : Nat) (L : List (Option Value)) (S : List Value) (h : List ms_C) : Option ms_Rs :=
  if S.length < ms_A z ∨ ms_F y < ms_F z + 1 ∨ ms_W y < 8 + (ms_L z + 11) + ms_W z ∨ 8 < ((S.drop (ms_A z)).map fun v => v.category).sum ∨ ms_L z < (ms_args (S.take (ms_A z)).reverse).length then none
  else match CA z (ms_init (S.take (ms_A z)).reverse (ms_L z)) h with
    | some (r, h') => K (pc + 3) L (r.toList ++ S.drop (ms_A z)) h'
    | none => none
def ms_bin (S : List Value) (f : Int32 → Int32 → Option (List Value → Option ms_Rs)) : Option ms_Rs := match S with
  | .int y :: .int x :: S => match f x y with
    | some g => g S
    | none => none
  | _ => none
def ms_step (sc : List Int32) (y pc : Nat) (K : Nat → List (Option Value) → List Value → List ms_C → Option ms_Rs) (CA : Nat → List (Option Value) → List ms_C → Option ms_Rs) (ins : Instr) (L : List (Option Value)) (S : List Value) (h : List ms_C) : Option ms_Rs :=
  match ins with
  | .iconst n => K (pc + 1) L (.int (Int32.ofInt n) :: S) h
  | .lconst n => K (pc + 1) L (.long (Int64.ofNat (n : Nat)) :: S) h
  | .bipush n => K (pc + 2) L (.int (Int8.ofInt n).toInt32 :: S) h
  | .sipush n => K (pc + 3) L (.int (Int16.ofInt n).toInt32 :: S) h
  | .ldc_w i => match ms_i (ms_O y) i with
    | some v => K (pc + 3) L (.int v :: S) h
    | none => none
  | .ldc2_w i => match ms_g (ms_O y) i with
    | some v => K (pc + 3) L (.long v :: S) h
    | none => none
  | .iload_n k => match L[(k : Nat)]? with
    | some (some (.int x)) => K (pc + 1) L (.int x :: S) h
    | _ => none
  | .iload k => match L[k]? with
    | some (some (.int x)) => K (pc + 2) L (.int x :: S) h
    | _ => none
  | .lload_n k => match L[(k : Nat)]? with
    | some (some (.long x)) => K (pc + 1) L (.long x :: S) h
    | _ => none
  | .lload k => match L[k]? with
    | some (some (.long x)) => K (pc + 2) L (.long x :: S) h
    | _ => none
  | .aload_n k => match L[(k : Nat)]? with
    | some (some (.ref x)) => K (pc + 1) L (.ref x :: S) h
    | some (some (.float x)) => K (pc + 1) L (.float x :: S) h
    | _ => none
  | .aload k => match L[k]? with
    | some (some (.ref x)) => K (pc + 2) L (.ref x :: S) h
    | some (some (.float x)) => K (pc + 2) L (.float x :: S) h
    | _ => none
  | .istore_n k => match S with
    | .int x :: S => match ms_set L (k : Nat) (.int x) with
      | some L => K (pc + 1) L S h
      | none => none
    | _ => none
  | .istore k => match S with
    | .int x :: S => match ms_set L k (.int x) with
      | some L => K (pc + 2) L S h
      | none => none
    | _ => none
  | .astore_n k => match S with
    | .ref x :: S => match ms_set L (k : Nat) (.ref x) with
      | some L => K (pc + 1) L S h
      | none => none
    | _ => none
  | .lstore_n k => match S with
    | .long x :: S => match ms_set2 L (k : Nat) (.long x) with
      | some L => K (pc + 1) L S h
      | none => none
    | _ => none
  | .lstore k => match S with
    | .long x :: S => match ms_set2 L k (.long x) with
      | some L => K (pc + 2) L S h
      | none => none
    | _ => none
  | .iinc k n => match L[k]? with
    | some (some (.int x)) => match ms_set L k (.int (x + Int32.ofInt n)) with
      | some L => K (pc + 3) L S h
      | none => none
    | _ => none
  | .iadd => ms_bin S fun a b => some fun S => K (pc + 1) L (.int (a + b) :: S) h
  | .isub => ms_bin S fun a b => some fun S => K (pc + 1) L (.int (a - b) :: S) h
  | .imul => ms_bin S fun a b => some fun S => K (pc + 1) L (.int (a * b) :: S) h
  | .idiv => ms_bin S fun a b => if b = 0 then none else some fun S => K (pc + 1) L (.int (a / b) :: S) h
  | .irem => ms_bin S fun a b => if b = 0 then none else some fun S => K (pc + 1) L (.int (a - a / b * b) :: S) h
  | .iand => ms_bin S fun a b => some fun S => K (pc + 1) L (.int (a &&& b) :: S) h
  | .ior => ms_bin S fun a b => some fun S => K (pc + 1) L (.int (a ||| b) :: S) h
  | .ishl => ms_bin S fun a b => some fun S => K (pc + 1) L (.int (a <<< (b &&& 31)) :: S) h
  | .ishr => ms_bin S fun a b => some fun S => K (pc + 1) L (.int (a >>> (b &&& 31)) :: S) h
  | .iushr => ms_bin S fun a b => some fun S => K (pc + 1) L (.int (a.toUInt32 >>> (b.toUInt32 &&& Int32.toUInt32 31)).toInt32 :: S) h
  | .ladd => match S with
    | .long b :: .long a :: S => K (pc + 1) L (.long (a + b) :: S) h
    | _ => none
  | .lmul => match S with
    | .long b :: .long a :: S => K (pc + 1) L (.long (a * b) :: S) h
    | _ => none
  | .ldiv => match S with
    | .long b :: .long a :: S => if b = 0 then none else K (pc + 1) L (.long (a / b) :: S) h
    | _ => none
  | .lrem => match S with
    | .long b :: .long a :: S => if b = 0 then none else K (pc + 1) L (.long (a - a / b * b) :: S) h
    | _ => none
  | .lcmp => match S with
    | .long b :: .long a :: S => K (pc + 1) L (.int (lg_cmp a b) :: S) h
    | _ => none
  | .i2l => match S with
    | .int a :: S => K (pc + 1) L (.long a.toInt64 :: S) h
    | _ => none
  | .l2i => match S with
    | .long a :: S => K (pc + 1) L (.int a.toInt32 :: S) h
    | _ => none
  | .i2c => match S with
    | .int a :: S => K (pc + 1) L (.int (a.toUInt32 % 65536).toInt32 :: S) h
    | _ => none
  | .dup => match S with
    | a :: S => if ms_one a then K (pc + 1) L (a :: a :: S) h else none
    | _ => none
  | .dup2 => match S with
    | a :: b :: S => if ms_one a && ms_one b then K (pc + 1) L (a :: b :: a :: b :: S) h else none
    | _ => none
  | .pop => match S with
    | a :: S => if ms_one a then K (pc + 1) L S h else none
    | _ => none
  | .goto o => ms_go pc o fun t => K t L S h
  | .ifCond c o => match S with
    | .int x :: S => match ms_cmpD c x 0 with
      | .isTrue _ => ms_go pc o fun t => K t L S h
      | .isFalse _ => K (pc + 3) L S h
    | _ => none
  | .if_icmp c o => match S with
    | .int b :: .int a :: S => match ms_cmpD c a b with
      | .isTrue _ => ms_go pc o fun t => K t L S h
      | .isFalse _ => K (pc + 3) L S h
    | _ => none
  | .tableswitch d lo hi os => match S with
    | .int x :: S => if x.toInt < lo ∨ hi < x.toInt then ms_go pc d fun t => K t L S h
      else match os[(x.toInt - lo).toNat]? with
        | some o => ms_go pc o fun t => K t L S h
        | none => none
    | _ => none
  | .lookupswitch d ps => match S with
    | .int x :: S => if (ps.toList.zip (ps.toList.drop 1)).all (fun (a, next) => a.1 < next.1) = true then ms_go pc (Op.lookupswitch.offset ps.toList d x.toInt) fun t => K t L S h else none
    | _ => none
  | .getfield i => match S with
    | .ref a :: S => match ms_f (ms_O y) i with
      | some (ci, k) => match ms_get h a ci k with
        | some v => K (pc + 3) L (v :: S) h
        | none => none
      | none => none
    | _ => none
  | .putfield i => match S with
    | v :: .ref a :: S => match ms_f (ms_O y) i with
      | some (ci, k) => match vwCl[ci]?, h[a]? with
        | some (C, T, N), some (.inl (cj, fs)) => if cj = ci ∧ k < N ∧ k < fs.length ∧ ms_fit (T k).2.2.1 v = true ∧ ((T k).2.2.2 = false ∨ ((ms_Y y).name = "<init>" ∧ (T k).1 = ms_cn (ms_O y))) then K (pc + 3) L S (h.set a (.inl (ci, fs.set k v))) else none
        | _, _ => none
      | none => none
    | _ => none
  | .iaload => match S with
    | .int i :: .ref a :: S => match h[a]? with
      | some (.inr (.inl (false, l))) => match ms_iat i l.length with
        | some j => K (pc + 1) L (.int (l.getD j 0) :: S) h
        | none => none
      | _ => none
    | .int i :: .float _ :: S => match ms_iat i sc.length with
      | some j => K (pc + 1) L (.int (sc.getD j 0) :: S) h
      | none => none
    | _ => none
  | .caload => match S with
    | .int i :: .ref a :: S => match h[a]? with
      | some (.inr (.inl (true, l))) => match ms_iat i l.length with
        | some j => K (pc + 1) L (.int (l.getD j 0) :: S) h
        | none => none
      | _ => none
    | _ => none
  | .iastore => match S with
    | .int x :: .int i :: .ref a :: S => match h[a]? with
      | some (.inr (.inl (false, l))) => match ms_iat i l.length with
        | some j => K (pc + 1) L S (h.set a (.inr (.inl (false, l.set j x))))
        | none => none
      | _ => none
    | _ => none
  | .castore => match S with
    | .int x :: .int i :: .ref a :: S => match h[a]? with
      | some (.inr (.inl (true, l))) => match ms_iat i l.length with
        | some j => K (pc + 1) L S (h.set a (.inr (.inl (true, l.set j (vp_nar .char x)))))
        | none => none
      | _ => none
    | _ => none
  | .aaload => match S with
    | .int i :: .ref a :: S => match h[a]? with
      | some (.inr (.inr l)) => match ms_iat i l.length with
        | some j => match l.getD j none with
          | some q => K (pc + 1) L (.ref q :: S) h
          | none => none
        | none => none
      | _ => none
    | _ => none
  | .aastore => match S with
    | .ref q :: .int i :: .ref a :: S => match h[a]?, h[q]? with
      | some (.inr (.inr l)), some (.inl (4, _)) => match ms_iat i l.length with
        | some j => K (pc + 1) L S (h.set a (.inr (.inr (l.set j (some q)))))
        | none => none
      | _, _ => none
    | _ => none
  | .arraylength => match S with
    | .ref a :: S => match h[a]? with
      | some (.inr (.inl (_, l))) => K (pc + 1) L (.int (Int32.ofNat l.length) :: S) h
      | some (.inr (.inr l)) => K (pc + 1) L (.int (Int32.ofNat l.length) :: S) h
      | _ => none
    | .float _ :: S => K (pc + 1) L (.int (Int32.ofNat sc.length) :: S) h
    | _ => none
  | .newarray t => match S with
    | .int n :: S => if n < 0 ∨ 1000 < n.toNatClampNeg then none else match t with
      | .int => K (pc + 2) L (.ref h.length :: S) (h ++ [.inr (.inl (false, List.replicate n.toNatClampNeg 0))])
      | .char => K (pc + 2) L (.ref h.length :: S) (h ++ [.inr (.inl (true, List.replicate n.toNatClampNeg 0))])
      | _ => none
    | _ => none
  | .anewarray i => match S with
    | .int n :: S => if n < 0 ∨ 1000 < n.toNatClampNeg ∨ ms_n (ms_O y) i ≠ some 4 then none
      else K (pc + 3) L (.ref h.length :: S) (h ++ [.inr (.inr (List.replicate n.toNatClampNeg none))])
    | _ => none
  | .new i => match ms_n (ms_O y) i with
    | some ci => K (pc + 3) L (.ref h.length :: S) (h ++ [.inl (ci, ms_d ci)])
    | none => none
  | .invokevirtual i => match ms_c (ms_O y) i with
    | some (z, 0) => match S[ms_A z - 1]? with
      | some (.ref a) => match h[a]? with
        | some (.inl (ci, _)) => if ci = ms_O z then ms_call y pc K CA 0 z L S h else none
        | _ => none
      | _ => none
    | _ => none
  | .invokestatic i => match ms_c (ms_O y) i with
    | some (z, 1) => ms_call y pc K CA 1 z L S h
    | some (z, 3) => ms_call y pc K CA 3 z L S h
    | _ => none
  | .invokespecial i => match ms_c (ms_O y) i with
    | some (_, 4) => match S with
      | [.ref _] => if 1 ≤ ms_F y ∧ 12 ≤ ms_W y then K (pc + 3) L [] h else none
      | _ => none
    | some (z, 2) => match S[ms_A z - 1]? with
      | some (.ref _) => ms_call y pc K CA 2 z L S h
      | _ => none
    | _ => none
  | .ireturn => match S with
    | [.int x] => if ms_R y = some .int ∨ (ms_R y = some .boolean ∧ (x = 0 ∨ x = 1)) then some (some (.int x), h) else none
    | _ => none
  | .return_ => match S with
    | [] => if ms_R y = none then some (none, h) else none
    | _ => none
  | _ => none
def ms_run (sc : List Int32) : Nat → Nat → Nat → List (Option Value) → List Value → List ms_C → Option ms_Rs
  | 0, _, _, _, _, _ => none
  | f + 1, y, pc, L, S, h => match decode (ms_B y) pc with
    | .ok (ins, len) => if (match ins with | .tableswitch .. => true | .lookupswitch .. => true | _ => len == ms_lens ins) = true then ms_step sc y pc (fun pc L S h => ms_run sc f y pc L S h) (fun z L h => ms_run sc f z 0 L [] h) ins L S h else none
    | .error _ => none
end

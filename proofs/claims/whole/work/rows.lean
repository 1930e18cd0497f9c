section
-- ===== PART A: goes FIRST, ahead of the names: the tables' words, and 'selects' of the private methods out of them =====
/-- a private method of a class that the tables say can be made, by its rows of tables_1 -/
def lw_okq (q : MethodName × Nat) : Prop := (q.1.cls ≠ "java/lang/invoke/MethodHandle" ∧ q.1.cls ≠ "java/lang/invoke/VarHandle") ∧ Cond.instantiable q.1.cls q.2 ∈ tables_1 ∧ Cond.privateMethod q.1 ∈ tables_1 ∧ Cond.instanceMethod q.1 ∈ tables_1
theorem lw_p0 : lw_okq (⟨"DriedMap", "faulted", "(I)I"⟩, 7) := ⟨⟨by decide +kernel, by decide +kernel⟩, List.mem_of_getElem? (i := 11) (by decide +kernel), List.mem_of_getElem? (i := 171) (by decide +kernel), List.mem_of_getElem? (i := 172) (by decide +kernel)⟩
theorem lw_p1 : lw_okq (⟨"DriedMap$Flat", "setShape", "(II)V"⟩, 9) := ⟨⟨by decide +kernel, by decide +kernel⟩, List.mem_of_getElem? (i := 19) (by decide +kernel), List.mem_of_getElem? (i := 203) (by decide +kernel), List.mem_of_getElem? (i := 204) (by decide +kernel)⟩
theorem lw_p2 : lw_okq (⟨"DriedMap$Flat", "beside", "(I)I"⟩, 9) := ⟨⟨by decide +kernel, by decide +kernel⟩, List.mem_of_getElem? (i := 19) (by decide +kernel), List.mem_of_getElem? (i := 236) (by decide +kernel), List.mem_of_getElem? (i := 237) (by decide +kernel)⟩
theorem lw_p3 : lw_okq (⟨"DriedMap", "refusalOfPairs", "(LDriedMap$Sheet;II)I"⟩, 7) := ⟨⟨by decide +kernel, by decide +kernel⟩, List.mem_of_getElem? (i := 11) (by decide +kernel), List.mem_of_getElem? (i := 314) (by decide +kernel), List.mem_of_getElem? (i := 315) (by decide +kernel)⟩
theorem lw_p4 : lw_okq (⟨"DriedMap$Trial", "canDo", "(II)Z"⟩, 4) := ⟨⟨by decide +kernel, by decide +kernel⟩, List.mem_of_getElem? (i := 63) (by decide +kernel), List.mem_of_getElem? (i := 329) (by decide +kernel), List.mem_of_getElem? (i := 330) (by decide +kernel)⟩
theorem lw_p5 : lw_okq (⟨"DriedMap$Trial", "goHours", "(I)V"⟩, 4) := ⟨⟨by decide +kernel, by decide +kernel⟩, List.mem_of_getElem? (i := 63) (by decide +kernel), List.mem_of_getElem? (i := 334) (by decide +kernel), List.mem_of_getElem? (i := 335) (by decide +kernel)⟩
theorem lw_p6 : lw_okq (⟨"DriedMap$Sheet", "cutToLane", "(I)I"⟩, 3) := ⟨⟨by decide +kernel, by decide +kernel⟩, List.mem_of_getElem? (i := 106) (by decide +kernel), List.mem_of_getElem? (i := 443) (by decide +kernel), List.mem_of_getElem? (i := 444) (by decide +kernel)⟩
theorem lw_p7 : lw_okq (⟨"DriedMap", "tellingOfSand", "(I)I"⟩, 7) := ⟨⟨by decide +kernel, by decide +kernel⟩, List.mem_of_getElem? (i := 11) (by decide +kernel), List.mem_of_getElem? (i := 462) (by decide +kernel), List.mem_of_getElem? (i := 463) (by decide +kernel)⟩
theorem lw_p8 : lw_okq (⟨"DriedMap", "leave", "(I)V"⟩, 7) := ⟨⟨by decide +kernel, by decide +kernel⟩, List.mem_of_getElem? (i := 11) (by decide +kernel), List.mem_of_getElem? (i := 466) (by decide +kernel), List.mem_of_getElem? (i := 467) (by decide +kernel)⟩
theorem lw_p9 : lw_okq (⟨"DriedMap", "tellingOfMud", "(I)I"⟩, 7) := ⟨⟨by decide +kernel, by decide +kernel⟩, List.mem_of_getElem? (i := 11) (by decide +kernel), List.mem_of_getElem? (i := 470) (by decide +kernel), List.mem_of_getElem? (i := 471) (by decide +kernel)⟩
theorem lw_p10 : lw_okq (⟨"DriedMap", "tellingOfClay", "(I)I"⟩, 7) := ⟨⟨by decide +kernel, by decide +kernel⟩, List.mem_of_getElem? (i := 11) (by decide +kernel), List.mem_of_getElem? (i := 474) (by decide +kernel), List.mem_of_getElem? (i := 475) (by decide +kernel)⟩
theorem lw_p11 : lw_okq (⟨"DriedMapModel", "against", "(IIII)I"⟩, 25) := ⟨⟨by decide +kernel, by decide +kernel⟩, List.mem_of_getElem? (i := 498) (by decide +kernel), List.mem_of_getElem? (i := 593) (by decide +kernel), List.mem_of_getElem? (i := 594) (by decide +kernel)⟩
theorem lw_p12 : lw_okq (⟨"DriedMapModel", "fails", "(I)I"⟩, 25) := ⟨⟨by decide +kernel, by decide +kernel⟩, List.mem_of_getElem? (i := 498) (by decide +kernel), List.mem_of_getElem? (i := 597) (by decide +kernel), List.mem_of_getElem? (i := 598) (by decide +kernel)⟩
theorem lw_p13 : lw_okq (⟨"DriedMapModel", "readBay", "(I)Z"⟩, 25) := ⟨⟨by decide +kernel, by decide +kernel⟩, List.mem_of_getElem? (i := 498) (by decide +kernel), List.mem_of_getElem? (i := 601) (by decide +kernel), List.mem_of_getElem? (i := 602) (by decide +kernel)⟩
theorem lw_p14 : lw_okq (⟨"DriedMapModel", "digit", "(III)I"⟩, 25) := ⟨⟨by decide +kernel, by decide +kernel⟩, List.mem_of_getElem? (i := 498) (by decide +kernel), List.mem_of_getElem? (i := 605) (by decide +kernel), List.mem_of_getElem? (i := 606) (by decide +kernel)⟩
theorem lw_p15 : lw_okq (⟨"DriedMapModel", "readCell", "(II)Z"⟩, 25) := ⟨⟨by decide +kernel, by decide +kernel⟩, List.mem_of_getElem? (i := 498) (by decide +kernel), List.mem_of_getElem? (i := 609) (by decide +kernel), List.mem_of_getElem? (i := 610) (by decide +kernel)⟩
def lw_privs_1 : List (MethodName × Nat) := [(⟨"DriedMap", "faulted", "(I)I"⟩, 7), (⟨"DriedMap$Flat", "setShape", "(II)V"⟩, 9), (⟨"DriedMap$Flat", "beside", "(I)I"⟩, 9), (⟨"DriedMap", "refusalOfPairs", "(LDriedMap$Sheet;II)I"⟩, 7), (⟨"DriedMap$Trial", "canDo", "(II)Z"⟩, 4), (⟨"DriedMap$Trial", "goHours", "(I)V"⟩, 4), (⟨"DriedMap$Sheet", "cutToLane", "(I)I"⟩, 3), (⟨"DriedMap", "tellingOfSand", "(I)I"⟩, 7), (⟨"DriedMap", "leave", "(I)V"⟩, 7), (⟨"DriedMap", "tellingOfMud", "(I)I"⟩, 7), (⟨"DriedMap", "tellingOfClay", "(I)I"⟩, 7), (⟨"DriedMapModel", "against", "(IIII)I"⟩, 25), (⟨"DriedMapModel", "fails", "(I)I"⟩, 25), (⟨"DriedMapModel", "readBay", "(I)Z"⟩, 25), (⟨"DriedMapModel", "digit", "(III)I"⟩, 25), (⟨"DriedMapModel", "readCell", "(II)Z"⟩, 25)]
theorem lw_r1 : ∀ q ∈ lw_privs_1, lw_okq q := List.forall_mem_cons.mpr ⟨lw_p0, List.forall_mem_cons.mpr ⟨lw_p1, List.forall_mem_cons.mpr ⟨lw_p2, List.forall_mem_cons.mpr ⟨lw_p3, List.forall_mem_cons.mpr ⟨lw_p4, List.forall_mem_cons.mpr ⟨lw_p5, List.forall_mem_cons.mpr ⟨lw_p6, List.forall_mem_cons.mpr ⟨lw_p7, List.forall_mem_cons.mpr ⟨lw_p8, List.forall_mem_cons.mpr ⟨lw_p9, List.forall_mem_cons.mpr ⟨lw_p10, List.forall_mem_cons.mpr ⟨lw_p11, List.forall_mem_cons.mpr ⟨lw_p12, List.forall_mem_cons.mpr ⟨lw_p13, List.forall_mem_cons.mpr ⟨lw_p14, List.forall_mem_cons.mpr ⟨lw_p15, fun _ h => absurd h List.not_mem_nil⟩⟩⟩⟩⟩⟩⟩⟩⟩⟩⟩⟩⟩⟩⟩⟩
theorem lw_p16 : lw_okq (⟨"DriedMapModel", "takeBay", "()V"⟩, 25) := ⟨⟨by decide +kernel, by decide +kernel⟩, List.mem_of_getElem? (i := 498) (by decide +kernel), List.mem_of_getElem? (i := 613) (by decide +kernel), List.mem_of_getElem? (i := 614) (by decide +kernel)⟩
theorem lw_p17 : lw_okq (⟨"DriedMapModel", "cellsOf", "()I"⟩, 25) := ⟨⟨by decide +kernel, by decide +kernel⟩, List.mem_of_getElem? (i := 498) (by decide +kernel), List.mem_of_getElem? (i := 617) (by decide +kernel), List.mem_of_getElem? (i := 618) (by decide +kernel)⟩
theorem lw_p18 : lw_okq (⟨"DriedMapModel", "isCell", "(I)Z"⟩, 25) := ⟨⟨by decide +kernel, by decide +kernel⟩, List.mem_of_getElem? (i := 498) (by decide +kernel), List.mem_of_getElem? (i := 625) (by decide +kernel), List.mem_of_getElem? (i := 626) (by decide +kernel)⟩
theorem lw_p19 : lw_okq (⟨"DriedMapModel", "losesOf", "(I)I"⟩, 25) := ⟨⟨by decide +kernel, by decide +kernel⟩, List.mem_of_getElem? (i := 498) (by decide +kernel), List.mem_of_getElem? (i := 629) (by decide +kernel), List.mem_of_getElem? (i := 630) (by decide +kernel)⟩
theorem lw_p20 : lw_okq (⟨"DriedMapModel", "pieceOf", "(I)I"⟩, 25) := ⟨⟨by decide +kernel, by decide +kernel⟩, List.mem_of_getElem? (i := 498) (by decide +kernel), List.mem_of_getElem? (i := 633) (by decide +kernel), List.mem_of_getElem? (i := 634) (by decide +kernel)⟩
theorem lw_p21 : lw_okq (⟨"DriedMapModel", "crackedBehind", "(I)I"⟩, 25) := ⟨⟨by decide +kernel, by decide +kernel⟩, List.mem_of_getElem? (i := 498) (by decide +kernel), List.mem_of_getElem? (i := 637) (by decide +kernel), List.mem_of_getElem? (i := 638) (by decide +kernel)⟩
theorem lw_p22 : lw_okq (⟨"DriedMapModel", "wetBehind", "(II)I"⟩, 25) := ⟨⟨by decide +kernel, by decide +kernel⟩, List.mem_of_getElem? (i := 498) (by decide +kernel), List.mem_of_getElem? (i := 641) (by decide +kernel), List.mem_of_getElem? (i := 642) (by decide +kernel)⟩
theorem lw_p23 : lw_okq (⟨"DriedMapModel", "spreadIn", "(II)I"⟩, 25) := ⟨⟨by decide +kernel, by decide +kernel⟩, List.mem_of_getElem? (i := 498) (by decide +kernel), List.mem_of_getElem? (i := 645) (by decide +kernel), List.mem_of_getElem? (i := 646) (by decide +kernel)⟩
theorem lw_p24 : lw_okq (⟨"DriedMapModel", "besides", "(I)I"⟩, 25) := ⟨⟨by decide +kernel, by decide +kernel⟩, List.mem_of_getElem? (i := 498) (by decide +kernel), List.mem_of_getElem? (i := 652) (by decide +kernel), List.mem_of_getElem? (i := 653) (by decide +kernel)⟩
theorem lw_p25 : lw_okq (⟨"DriedMapModel", "dryBy", "(I)V"⟩, 25) := ⟨⟨by decide +kernel, by decide +kernel⟩, List.mem_of_getElem? (i := 498) (by decide +kernel), List.mem_of_getElem? (i := 674) (by decide +kernel), List.mem_of_getElem? (i := 675) (by decide +kernel)⟩
theorem lw_p26 : lw_okq (⟨"DriedMapModel", "pouredOn", "(II)I"⟩, 25) := ⟨⟨by decide +kernel, by decide +kernel⟩, List.mem_of_getElem? (i := 498) (by decide +kernel), List.mem_of_getElem? (i := 682) (by decide +kernel), List.mem_of_getElem? (i := 683) (by decide +kernel)⟩
theorem lw_p27 : lw_okq (⟨"DriedMapModel", "isOpen", "(I)Z"⟩, 25) := ⟨⟨by decide +kernel, by decide +kernel⟩, List.mem_of_getElem? (i := 498) (by decide +kernel), List.mem_of_getElem? (i := 690) (by decide +kernel), List.mem_of_getElem? (i := 691) (by decide +kernel)⟩
theorem lw_p28 : lw_okq (⟨"DriedMapModel", "refusesPair", "(II)I"⟩, 25) := ⟨⟨by decide +kernel, by decide +kernel⟩, List.mem_of_getElem? (i := 498) (by decide +kernel), List.mem_of_getElem? (i := 702) (by decide +kernel), List.mem_of_getElem? (i := 703) (by decide +kernel)⟩
theorem lw_p29 : lw_okq (⟨"DriedMapModel", "keep", "()V"⟩, 25) := ⟨⟨by decide +kernel, by decide +kernel⟩, List.mem_of_getElem? (i := 498) (by decide +kernel), List.mem_of_getElem? (i := 706) (by decide +kernel), List.mem_of_getElem? (i := 707) (by decide +kernel)⟩
theorem lw_p30 : lw_okq (⟨"DriedMapModel", "goPlan", "(II)I"⟩, 25) := ⟨⟨by decide +kernel, by decide +kernel⟩, List.mem_of_getElem? (i := 498) (by decide +kernel), List.mem_of_getElem? (i := 710) (by decide +kernel), List.mem_of_getElem? (i := 711) (by decide +kernel)⟩
theorem lw_p31 : lw_okq (⟨"DriedMapModel", "noteOpen", "()V"⟩, 25) := ⟨⟨by decide +kernel, by decide +kernel⟩, List.mem_of_getElem? (i := 498) (by decide +kernel), List.mem_of_getElem? (i := 714) (by decide +kernel), List.mem_of_getElem? (i := 715) (by decide +kernel)⟩
def lw_privs_2 : List (MethodName × Nat) := [(⟨"DriedMapModel", "takeBay", "()V"⟩, 25), (⟨"DriedMapModel", "cellsOf", "()I"⟩, 25), (⟨"DriedMapModel", "isCell", "(I)Z"⟩, 25), (⟨"DriedMapModel", "losesOf", "(I)I"⟩, 25), (⟨"DriedMapModel", "pieceOf", "(I)I"⟩, 25), (⟨"DriedMapModel", "crackedBehind", "(I)I"⟩, 25), (⟨"DriedMapModel", "wetBehind", "(II)I"⟩, 25), (⟨"DriedMapModel", "spreadIn", "(II)I"⟩, 25), (⟨"DriedMapModel", "besides", "(I)I"⟩, 25), (⟨"DriedMapModel", "dryBy", "(I)V"⟩, 25), (⟨"DriedMapModel", "pouredOn", "(II)I"⟩, 25), (⟨"DriedMapModel", "isOpen", "(I)Z"⟩, 25), (⟨"DriedMapModel", "refusesPair", "(II)I"⟩, 25), (⟨"DriedMapModel", "keep", "()V"⟩, 25), (⟨"DriedMapModel", "goPlan", "(II)I"⟩, 25), (⟨"DriedMapModel", "noteOpen", "()V"⟩, 25)]
theorem lw_r2 : ∀ q ∈ lw_privs_2, lw_okq q := List.forall_mem_cons.mpr ⟨lw_p16, List.forall_mem_cons.mpr ⟨lw_p17, List.forall_mem_cons.mpr ⟨lw_p18, List.forall_mem_cons.mpr ⟨lw_p19, List.forall_mem_cons.mpr ⟨lw_p20, List.forall_mem_cons.mpr ⟨lw_p21, List.forall_mem_cons.mpr ⟨lw_p22, List.forall_mem_cons.mpr ⟨lw_p23, List.forall_mem_cons.mpr ⟨lw_p24, List.forall_mem_cons.mpr ⟨lw_p25, List.forall_mem_cons.mpr ⟨lw_p26, List.forall_mem_cons.mpr ⟨lw_p27, List.forall_mem_cons.mpr ⟨lw_p28, List.forall_mem_cons.mpr ⟨lw_p29, List.forall_mem_cons.mpr ⟨lw_p30, List.forall_mem_cons.mpr ⟨lw_p31, fun _ h => absurd h List.not_mem_nil⟩⟩⟩⟩⟩⟩⟩⟩⟩⟩⟩⟩⟩⟩⟩⟩
theorem lw_p32 : lw_okq (⟨"DriedMapModel", "does", "(II)Z"⟩, 25) := ⟨⟨by decide +kernel, by decide +kernel⟩, List.mem_of_getElem? (i := 498) (by decide +kernel), List.mem_of_getElem? (i := 718) (by decide +kernel), List.mem_of_getElem? (i := 719) (by decide +kernel)⟩
theorem lw_p33 : lw_okq (⟨"DriedMapModel", "tellPlan", "(I)I"⟩, 25) := ⟨⟨by decide +kernel, by decide +kernel⟩, List.mem_of_getElem? (i := 498) (by decide +kernel), List.mem_of_getElem? (i := 722) (by decide +kernel), List.mem_of_getElem? (i := 723) (by decide +kernel)⟩
theorem lw_p34 : lw_okq (⟨"DriedMapModel", "putBack", "()V"⟩, 25) := ⟨⟨by decide +kernel, by decide +kernel⟩, List.mem_of_getElem? (i := 498) (by decide +kernel), List.mem_of_getElem? (i := 726) (by decide +kernel), List.mem_of_getElem? (i := 727) (by decide +kernel)⟩
theorem lw_p35 : lw_okq (⟨"DriedMapModel", "areSo", "()Z"⟩, 25) := ⟨⟨by decide +kernel, by decide +kernel⟩, List.mem_of_getElem? (i := 498) (by decide +kernel), List.mem_of_getElem? (i := 758) (by decide +kernel), List.mem_of_getElem? (i := 759) (by decide +kernel)⟩
theorem lw_p36 : lw_okq (⟨"DriedMapModel", "lost", "(I)J"⟩, 25) := ⟨⟨by decide +kernel, by decide +kernel⟩, List.mem_of_getElem? (i := 498) (by decide +kernel), List.mem_of_getElem? (i := 794) (by decide +kernel), List.mem_of_getElem? (i := 795) (by decide +kernel)⟩
theorem lw_p37 : lw_okq (⟨"DriedMapModel", "begins", "(I)V"⟩, 25) := ⟨⟨by decide +kernel, by decide +kernel⟩, List.mem_of_getElem? (i := 498) (by decide +kernel), List.mem_of_getElem? (i := 806) (by decide +kernel), List.mem_of_getElem? (i := 807) (by decide +kernel)⟩
def lw_privs_3 : List (MethodName × Nat) := [(⟨"DriedMapModel", "does", "(II)Z"⟩, 25), (⟨"DriedMapModel", "tellPlan", "(I)I"⟩, 25), (⟨"DriedMapModel", "putBack", "()V"⟩, 25), (⟨"DriedMapModel", "areSo", "()Z"⟩, 25), (⟨"DriedMapModel", "lost", "(I)J"⟩, 25), (⟨"DriedMapModel", "begins", "(I)V"⟩, 25)]
theorem lw_r3 : ∀ q ∈ lw_privs_3, lw_okq q := List.forall_mem_cons.mpr ⟨lw_p32, List.forall_mem_cons.mpr ⟨lw_p33, List.forall_mem_cons.mpr ⟨lw_p34, List.forall_mem_cons.mpr ⟨lw_p35, List.forall_mem_cons.mpr ⟨lw_p36, List.forall_mem_cons.mpr ⟨lw_p37, fun _ h => absurd h List.not_mem_nil⟩⟩⟩⟩⟩⟩
def lw_privs : List (MethodName × Nat) := lw_privs_1 ++ (lw_privs_2 ++ (lw_privs_3))
def lw_tbl : List Cond := k2_sels lw_privs ++ tables_1
theorem lw_privs_ok : ∀ q ∈ lw_privs, lw_okq q := by
  show ∀ q ∈ lw_privs_1 ++ (lw_privs_2 ++ (lw_privs_3)), lw_okq q
  exact List.forall_mem_append.mpr ⟨lw_r1, List.forall_mem_append.mpr ⟨lw_r2, lw_r3⟩⟩
end
section
def RX0 : String := "DriedMap$Flat"
def TX0 : u_T := fun k => match k with
  | 0 => ("DriedMap$Flat", "kind", "[I", true)
  | 1 => ("DriedMap$Flat", "wet", "[I", true)
  | 2 => ("DriedMap$Flat", "wide", "I", false)
  | 3 => ("DriedMap$Flat", "rows", "I", false)
  | 4 => ("DriedMap$Flat", "cells", "I", false)
  | 5 => ("DriedMap$Flat", "sun", "I", false)
  | 6 => ("DriedMap$Flat", "all", "I", false)
  | 7 => ("DriedMap$Flat", "firstColumn", "I", false)
  | _ => ("DriedMap$Flat", "lastColumn", "I", false)
def tyX0 : Nat → FieldType := fun k => match k with
  | 0 => .array .int
  | 1 => .array .int
  | 2 => .int
  | 3 => .int
  | 4 => .int
  | 5 => .int
  | 6 => .int
  | 7 => .int
  | _ => .int
abbrev wsX00 : List Cond := u_ws RX0 TX0 9
theorem nmX0 : ∀ a, a < 9 → ∀ b, b < 9 → a ≠ b → (TX0 a).2.1 ≠ (TX0 b).2.1 := by decide +kernel
theorem tyX0_ok : ∀ k, k < 9 → parseFieldDescriptor (TX0 k).2.2.1 = some (tyX0 k) := by decide +kernel
abbrev cX0_init : ByteArray := prog_2_method_1_code
def yX0_init : MethodName := ⟨RX0, "<init>", "()V"⟩
abbrev cX0_becomeText : ByteArray := prog_2_method_2_code
def yX0_becomeText : MethodName := ⟨RX0, "becomeText", "(LDriedMap$Sheet;I)V"⟩
abbrev cX0_setShape : ByteArray := prog_2_method_3_code
def yX0_setShape : MethodName := ⟨RX0, "setShape", "(II)V"⟩
abbrev cX0_becomeLike : ByteArray := prog_2_method_4_code
def yX0_becomeLike : MethodName := ⟨RX0, "becomeLike", "(LDriedMap$Flat;)V"⟩
abbrev cX0_isThere : ByteArray := prog_2_method_5_code
def yX0_isThere : MethodName := ⟨RX0, "isThere", "()Z"⟩
abbrev cX0_isCell : ByteArray := prog_2_method_6_code
def yX0_isCell : MethodName := ⟨RX0, "isCell", "(I)Z"⟩
abbrev cX0_losesOf : ByteArray := prog_2_method_7_code
def yX0_losesOf : MethodName := ⟨RX0, "losesOf", "(I)I"⟩
abbrev cX0_passHours : ByteArray := prog_2_method_8_code
def yX0_passHours : MethodName := ⟨RX0, "passHours", "(I)V"⟩
abbrev cX0_pourOn : ByteArray := prog_2_method_9_code
def yX0_pourOn : MethodName := ⟨RX0, "pourOn", "(II)Z"⟩
abbrev cX0_wetOfAll : ByteArray := prog_2_method_10_code
def yX0_wetOfAll : MethodName := ⟨RX0, "wetOfAll", "()I"⟩
abbrev cX0_isCrackedBehind : ByteArray := prog_2_method_11_code
def yX0_isCrackedBehind : MethodName := ⟨RX0, "isCrackedBehind", "(II)Z"⟩
abbrev cX0_crackedSetBehind : ByteArray := prog_2_method_12_code
def yX0_crackedSetBehind : MethodName := ⟨RX0, "crackedSetBehind", "(I)I"⟩
abbrev cX0_crackedSet : ByteArray := prog_2_method_13_code
def yX0_crackedSet : MethodName := ⟨RX0, "crackedSet", "()I"⟩
abbrev cX0_wetSet : ByteArray := prog_2_method_14_code
def yX0_wetSet : MethodName := ⟨RX0, "wetSet", "()I"⟩
abbrev cX0_beside : ByteArray := prog_2_method_15_code
def yX0_beside : MethodName := ⟨RX0, "beside", "(I)I"⟩
abbrev cX0_hanging : ByteArray := prog_2_method_16_code
def yX0_hanging : MethodName := ⟨RX0, "hanging", "(II)I"⟩
abbrev cX0_isOpenBy : ByteArray := prog_2_method_17_code
def yX0_isOpenBy : MethodName := ⟨RX0, "isOpenBy", "(I)Z"⟩
abbrev cX0_fewestSteps : ByteArray := prog_2_method_18_code
def yX0_fewestSteps : MethodName := ⟨RX0, "fewestSteps", "(II)I"⟩
abbrev cX0_howManyPieces : ByteArray := prog_2_method_19_code
def yX0_howManyPieces : MethodName := ⟨RX0, "howManyPieces", "()I"⟩
abbrev cX0_greatestPiece : ByteArray := prog_2_method_20_code
def yX0_greatestPiece : MethodName := ⟨RX0, "greatestPiece", "()I"⟩
abbrev cX0_fewestBars : ByteArray := prog_2_method_21_code
def yX0_fewestBars : MethodName := ⟨RX0, "fewestBars", "(I)I"⟩
abbrev cX0_openWays : ByteArray := prog_2_method_22_code
def yX0_openWays : MethodName := ⟨RX0, "openWays", "()I"⟩
def RX1 : String := "DriedMap$Readings"
def TX1 : u_T := fun k => match k with
  | 0 => ("DriedMap$Readings", "cells", "[I", true)
  | 1 => ("DriedMap$Readings", "hours", "[I", true)
  | 2 => ("DriedMap$Readings", "cracked", "[I", true)
  | _ => ("DriedMap$Readings", "count", "I", false)
def tyX1 : Nat → FieldType := fun k => match k with
  | 0 => .array .int
  | 1 => .array .int
  | 2 => .array .int
  | _ => .int
abbrev wsX10 : List Cond := u_ws RX1 TX1 4
theorem nmX1 : ∀ a, a < 4 → ∀ b, b < 4 → a ≠ b → (TX1 a).2.1 ≠ (TX1 b).2.1 := by decide +kernel
theorem tyX1_ok : ∀ k, k < 4 → parseFieldDescriptor (TX1 k).2.2.1 = some (tyX1 k) := by decide +kernel
abbrev cX1_init : ByteArray := prog_3_method_1_code
def yX1_init : MethodName := ⟨RX1, "<init>", "()V"⟩
abbrev cX1_addOne : ByteArray := prog_3_method_2_code
def yX1_addOne : MethodName := ⟨RX1, "addOne", "(III)I"⟩
abbrev cX1_areSoIn : ByteArray := prog_3_method_3_code
def yX1_areSoIn : MethodName := ⟨RX1, "areSoIn", "(LDriedMap$Flat;)Z"⟩
def RX2 : String := "DriedMap$Sheet"
def TX2 : u_T := fun k => match k with
  | 0 => ("DriedMap$Sheet", "row", "[I", true)
  | 1 => ("DriedMap$Sheet", "lane", "I", false)
  | _ => ("DriedMap$Sheet", "length", "I", false)
def tyX2 : Nat → FieldType := fun k => match k with
  | 0 => .array .int
  | 1 => .int
  | _ => .int
abbrev wsX20 : List Cond := u_ws RX2 TX2 3
theorem nmX2 : ∀ a, a < 3 → ∀ b, b < 3 → a ≠ b → (TX2 a).2.1 ≠ (TX2 b).2.1 := by decide +kernel
theorem tyX2_ok : ∀ k, k < 3 → parseFieldDescriptor (TX2 k).2.2.1 = some (tyX2 k) := by decide +kernel
abbrev cX2_init : ByteArray := prog_4_method_1_code
def yX2_init : MethodName := ⟨RX2, "<init>", "()V"⟩
abbrev cX2_isNothing : ByteArray := prog_4_method_2_code
def yX2_isNothing : MethodName := ⟨RX2, "isNothing", "()Z"⟩
abbrev cX2_becomeNothing : ByteArray := prog_4_method_3_code
def yX2_becomeNothing : MethodName := ⟨RX2, "becomeNothing", "()V"⟩
abbrev cX2_becomeRow : ByteArray := prog_4_method_4_code
def yX2_becomeRow : MethodName := ⟨RX2, "becomeRow", "(II)V"⟩
abbrev cX2_faultAs : ByteArray := prog_4_method_5_code
def yX2_faultAs : MethodName := ⟨RX2, "faultAs", "(I)I"⟩
abbrev cX2_hasPlace : ByteArray := prog_4_method_6_code
def yX2_hasPlace : MethodName := ⟨RX2, "hasPlace", "(I)Z"⟩
abbrev cX2_has : ByteArray := prog_4_method_7_code
def yX2_has : MethodName := ⟨RX2, "has", "(II)Z"⟩
abbrev cX2_codeAt : ByteArray := prog_4_method_8_code
def yX2_codeAt : MethodName := ⟨RX2, "codeAt", "(I)I"⟩
abbrev cX2_setAt : ByteArray := prog_4_method_9_code
def yX2_setAt : MethodName := ⟨RX2, "setAt", "(II)V"⟩
abbrev cX2_cutToLane : ByteArray := prog_4_method_10_code
def yX2_cutToLane : MethodName := ⟨RX2, "cutToLane", "(I)I"⟩
def RX3 : String := "DriedMap$Trial"
def TX3 : u_T := fun k => match k with
  | 0 => ("DriedMap$Trial", "flat", "LDriedMap$Flat;", true)
  | 1 => ("DriedMap$Trial", "hours", "I", false)
  | 2 => ("DriedMap$Trial", "opened", "I", false)
  | _ => ("DriedMap$Trial", "firstWrong", "I", false)
def tyX3 : Nat → FieldType := fun k => match k with
  | 0 => .object "DriedMap$Flat"
  | 1 => .int
  | 2 => .int
  | _ => .int
abbrev wsX30 : List Cond := u_ws RX3 TX3 4
theorem nmX3 : ∀ a, a < 4 → ∀ b, b < 4 → a ≠ b → (TX3 a).2.1 ≠ (TX3 b).2.1 := by decide +kernel
theorem tyX3_ok : ∀ k, k < 4 → parseFieldDescriptor (TX3 k).2.2.1 = some (tyX3 k) := by decide +kernel
abbrev cX3_init : ByteArray := prog_5_method_1_code
def yX3_init : MethodName := ⟨RX3, "<init>", "()V"⟩
abbrev cX3_follow : ByteArray := prog_5_method_2_code
def yX3_follow : MethodName := ⟨RX3, "follow", "(LDriedMap$Flat;LDriedMap$Sheet;II)V"⟩
abbrev cX3_canDo : ByteArray := prog_5_method_3_code
def yX3_canDo : MethodName := ⟨RX3, "canDo", "(II)Z"⟩
abbrev cX3_goHours : ByteArray := prog_5_method_4_code
def yX3_goHours : MethodName := ⟨RX3, "goHours", "(I)V"⟩
abbrev cX3_answerTo : ByteArray := prog_5_method_5_code
def yX3_answerTo : MethodName := ⟨RX3, "answerTo", "(I)I"⟩
def RX4 : String := "DriedMap"
def TX4 : u_T := fun k => match k with
  | 0 => ("DriedMap", "flat", "LDriedMap$Flat;", true)
  | 1 => ("DriedMap", "trial", "LDriedMap$Trial;", true)
  | 2 => ("DriedMap", "readings", "LDriedMap$Readings;", true)
  | 3 => ("DriedMap", "sheets", "[LDriedMap$Sheet;", true)
  | 4 => ("DriedMap", "hour", "I", false)
  | 5 => ("DriedMap", "traced", "I", false)
  | _ => ("DriedMap", "latestFault", "I", false)
def tyX4 : Nat → FieldType := fun k => match k with
  | 0 => .object "DriedMap$Flat"
  | 1 => .object "DriedMap$Trial"
  | 2 => .object "DriedMap$Readings"
  | 3 => .array (.object "DriedMap$Sheet")
  | 4 => .int
  | 5 => .int
  | _ => .int
abbrev wsX40 : List Cond := u_ws RX4 TX4 7
theorem nmX4 : ∀ a, a < 7 → ∀ b, b < 7 → a ≠ b → (TX4 a).2.1 ≠ (TX4 b).2.1 := by decide +kernel
theorem tyX4_ok : ∀ k, k < 7 → parseFieldDescriptor (TX4 k).2.2.1 = some (tyX4 k) := by decide +kernel
abbrev cX4_init : ByteArray := prog_1_method_1_code
def yX4_init : MethodName := ⟨RX4, "<init>", "()V"⟩
abbrev cX4_bay : ByteArray := prog_1_method_2_code
def yX4_bay : MethodName := ⟨RX4, "bay", "(IIII)I"⟩
abbrev cX4_ofCell : ByteArray := prog_1_method_3_code
def yX4_ofCell : MethodName := ⟨RX4, "ofCell", "(II)I"⟩
abbrev cX4_shine : ByteArray := prog_1_method_4_code
def yX4_shine : MethodName := ⟨RX4, "shine", "(I)I"⟩
abbrev cX4_silt : ByteArray := prog_1_method_5_code
def yX4_silt : MethodName := ⟨RX4, "silt", "(II)I"⟩
abbrev cX4_dry : ByteArray := prog_1_method_6_code
def yX4_dry : MethodName := ⟨RX4, "dry", "(I)I"⟩
abbrev cX4_pour : ByteArray := prog_1_method_7_code
def yX4_pour : MethodName := ⟨RX4, "pour", "(II)I"⟩
abbrev cX4_cracks : ByteArray := prog_1_method_8_code
def yX4_cracks : MethodName := ⟨RX4, "cracks", "(I)I"⟩
abbrev cX4_way : ByteArray := prog_1_method_9_code
def yX4_way : MethodName := ⟨RX4, "way", "(II)I"⟩
abbrev cX4_plan : ByteArray := prog_1_method_10_code
def yX4_plan : MethodName := ⟨RX4, "plan", "(IIIII)I"⟩
abbrev cX4_when : ByteArray := prog_1_method_11_code
def yX4_when : MethodName := ⟨RX4, "when", "(I)I"⟩
abbrev cX4_opens : ByteArray := prog_1_method_12_code
def yX4_opens : MethodName := ⟨RX4, "opens", "()I"⟩
abbrev cX4_bars : ByteArray := prog_1_method_13_code
def yX4_bars : MethodName := ⟨RX4, "bars", "(I)I"⟩
abbrev cX4_dates : ByteArray := prog_1_method_14_code
def yX4_dates : MethodName := ⟨RX4, "dates", "(I)I"⟩
abbrev cX4_reading : ByteArray := prog_1_method_15_code
def yX4_reading : MethodName := ⟨RX4, "reading", "(III)I"⟩
abbrev cX4_back : ByteArray := prog_1_method_16_code
def yX4_back : MethodName := ⟨RX4, "back", "(I)I"⟩
abbrev cX4_wets : ByteArray := prog_1_method_17_code
def yX4_wets : MethodName := ⟨RX4, "wets", "(I)I"⟩
abbrev cX4_kinds : ByteArray := prog_1_method_18_code
def yX4_kinds : MethodName := ⟨RX4, "kinds", "(I)I"⟩
abbrev cX4_suns : ByteArray := prog_1_method_19_code
def yX4_suns : MethodName := ⟨RX4, "suns", "()I"⟩
abbrev cX4_odds : ByteArray := prog_1_method_20_code
def yX4_odds : MethodName := ⟨RX4, "odds", "(I)J"⟩
abbrev cX4_sheet : ByteArray := prog_1_method_21_code
def yX4_sheet : MethodName := ⟨RX4, "sheet", "(III)I"⟩
abbrev cX4_lose : ByteArray := prog_1_method_22_code
def yX4_lose : MethodName := ⟨RX4, "lose", "(I)I"⟩
abbrev cX4_put : ByteArray := prog_1_method_23_code
def yX4_put : MethodName := ⟨RX4, "put", "(III)I"⟩
abbrev cX4_cell : ByteArray := prog_1_method_24_code
def yX4_cell : MethodName := ⟨RX4, "cell", "(III)J"⟩
abbrev cX4_copy : ByteArray := prog_1_method_25_code
def yX4_copy : MethodName := ⟨RX4, "copy", "(IIIII)I"⟩
abbrev cX4_tell : ByteArray := prog_1_method_26_code
def yX4_tell : MethodName := ⟨RX4, "tell", "(I)I"⟩
abbrev cX4_draw : ByteArray := prog_1_method_27_code
def yX4_draw : MethodName := ⟨RX4, "draw", "(I)I"⟩
abbrev cX4_as : ByteArray := prog_1_method_28_code
def yX4_as : MethodName := ⟨RX4, "as", "(II)I"⟩
abbrev cX4_trace : ByteArray := prog_1_method_29_code
def yX4_trace : MethodName := ⟨RX4, "trace", "()I"⟩
abbrev cX4_fault : ByteArray := prog_1_method_30_code
def yX4_fault : MethodName := ⟨RX4, "fault", "()I"⟩
abbrev cX4_many : ByteArray := prog_1_method_31_code
def yX4_many : MethodName := ⟨RX4, "many", "(I)I"⟩
abbrev cX4_within : ByteArray := prog_1_method_32_code
def yX4_within : MethodName := ⟨RX4, "within", "(III)Z"⟩
abbrev cX4_isSheet : ByteArray := prog_1_method_33_code
def yX4_isSheet : MethodName := ⟨RX4, "isSheet", "(I)Z"⟩
abbrev cX4_isLane : ByteArray := prog_1_method_34_code
def yX4_isLane : MethodName := ⟨RX4, "isLane", "(I)Z"⟩
abbrev cX4_faulted : ByteArray := prog_1_method_35_code
def yX4_faulted : MethodName := ⟨RX4, "faulted", "(I)I"⟩
abbrev cX4_leave : ByteArray := prog_1_method_36_code
def yX4_leave : MethodName := ⟨RX4, "leave", "(I)V"⟩
abbrev cX4_tellingOfMud : ByteArray := prog_1_method_37_code
def yX4_tellingOfMud : MethodName := ⟨RX4, "tellingOfMud", "(I)I"⟩
abbrev cX4_tellingOfSand : ByteArray := prog_1_method_38_code
def yX4_tellingOfSand : MethodName := ⟨RX4, "tellingOfSand", "(I)I"⟩
abbrev cX4_tellingOfClay : ByteArray := prog_1_method_39_code
def yX4_tellingOfClay : MethodName := ⟨RX4, "tellingOfClay", "(I)I"⟩
abbrev cX4_refusalOfPairs : ByteArray := prog_1_method_40_code
def yX4_refusalOfPairs : MethodName := ⟨RX4, "refusalOfPairs", "(LDriedMap$Sheet;II)I"⟩
abbrev cX4_firstFault : ByteArray := prog_1_method_41_code
def yX4_firstFault : MethodName := ⟨RX4, "firstFault", "(LDriedMap$Sheet;II)I"⟩
abbrev cX4_goesOn : ByteArray := prog_1_method_42_code
def yX4_goesOn : MethodName := ⟨RX4, "goesOn", "(LDriedMap$Sheet;II)Z"⟩
abbrev cX4_lengthOfText : ByteArray := prog_1_method_43_code
def yX4_lengthOfText : MethodName := ⟨RX4, "lengthOfText", "(LDriedMap$Sheet;I)I"⟩
abbrev cX4_digitAt : ByteArray := prog_1_method_44_code
def yX4_digitAt : MethodName := ⟨RX4, "digitAt", "(LDriedMap$Sheet;I)I"⟩
abbrev cX4_kindByLetter : ByteArray := prog_1_method_45_code
def yX4_kindByLetter : MethodName := ⟨RX4, "kindByLetter", "(I)I"⟩
def RX5 : String := "DriedMapModel"
def TX5 : u_T := fun k => match k with
  | 0 => ("DriedMapModel", "fault", "I", false)
  | 1 => ("DriedMapModel", "trace", "I", false)
  | 2 => ("DriedMapModel", "sorts", "[I", true)
  | 3 => ("DriedMapModel", "sheetLong", "[I", true)
  | 4 => ("DriedMapModel", "cells", "[I", true)
  | 5 => ("DriedMapModel", "sun", "I", false)
  | 6 => ("DriedMapModel", "wide", "I", false)
  | 7 => ("DriedMapModel", "deep", "I", false)
  | 8 => ("DriedMapModel", "hour", "I", false)
  | 9 => ("DriedMapModel", "kind", "[I", true)
  | 10 => ("DriedMapModel", "wet", "[I", true)
  | 11 => ("DriedMapModel", "at", "I", false)
  | 12 => ("DriedMapModel", "readSun", "I", false)
  | 13 => ("DriedMapModel", "readWide", "I", false)
  | 14 => ("DriedMapModel", "readDeep", "I", false)
  | 15 => ("DriedMapModel", "readKind", "[I", true)
  | 16 => ("DriedMapModel", "readWet", "[I", true)
  | 17 => ("DriedMapModel", "keptWet", "[I", true)
  | 18 => ("DriedMapModel", "keptSun", "I", false)
  | 19 => ("DriedMapModel", "openFirst", "I", false)
  | 20 => ("DriedMapModel", "planHours", "I", false)
  | 21 => ("DriedMapModel", "readings", "I", false)
  | 22 => ("DriedMapModel", "readCells", "[I", true)
  | 23 => ("DriedMapModel", "readHours", "[I", true)
  | _ => ("DriedMapModel", "readCracked", "[I", true)
def tyX5 : Nat → FieldType := fun k => match k with
  | 0 => .int
  | 1 => .int
  | 2 => .array .int
  | 3 => .array .int
  | 4 => .array .int
  | 5 => .int
  | 6 => .int
  | 7 => .int
  | 8 => .int
  | 9 => .array .int
  | 10 => .array .int
  | 11 => .int
  | 12 => .int
  | 13 => .int
  | 14 => .int
  | 15 => .array .int
  | 16 => .array .int
  | 17 => .array .int
  | 18 => .int
  | 19 => .int
  | 20 => .int
  | 21 => .int
  | 22 => .array .int
  | 23 => .array .int
  | _ => .array .int
abbrev wsX50 : List Cond := u_ws RX5 TX5 25
theorem nmX5 : ∀ a, a < 25 → ∀ b, b < 25 → a ≠ b → (TX5 a).2.1 ≠ (TX5 b).2.1 := by decide +kernel
theorem tyX5_ok : ∀ k, k < 25 → parseFieldDescriptor (TX5 k).2.2.1 = some (tyX5 k) := by decide +kernel
abbrev cX5_init : ByteArray := prog_7_method_1_code
def yX5_init : MethodName := ⟨RX5, "<init>", "()V"⟩
abbrev cX5_fails : ByteArray := prog_7_method_3_code
def yX5_fails : MethodName := ⟨RX5, "fails", "(I)I"⟩
abbrev cX5_lost : ByteArray := prog_7_method_4_code
def yX5_lost : MethodName := ⟨RX5, "lost", "(I)J"⟩
abbrev cX5_within : ByteArray := prog_7_method_5_code
def yX5_within : MethodName := ⟨RX5, "within", "(III)Z"⟩
abbrev cX5_isSheet : ByteArray := prog_7_method_6_code
def yX5_isSheet : MethodName := ⟨RX5, "isSheet", "(I)Z"⟩
abbrev cX5_isSort : ByteArray := prog_7_method_7_code
def yX5_isSort : MethodName := ⟨RX5, "isSort", "(I)Z"⟩
abbrev cX5_against : ByteArray := prog_7_method_8_code
def yX5_against : MethodName := ⟨RX5, "against", "(IIII)I"⟩
abbrev cX5_cellsOf : ByteArray := prog_7_method_9_code
def yX5_cellsOf : MethodName := ⟨RX5, "cellsOf", "()I"⟩
abbrev cX5_isCell : ByteArray := prog_7_method_10_code
def yX5_isCell : MethodName := ⟨RX5, "isCell", "(I)Z"⟩
abbrev cX5_isDigit : ByteArray := prog_7_method_11_code
def yX5_isDigit : MethodName := ⟨RX5, "isDigit", "(I)Z"⟩
abbrev cX5_isOf : ByteArray := prog_7_method_12_code
def yX5_isOf : MethodName := ⟨RX5, "isOf", "(II)Z"⟩
abbrev cX5_size : ByteArray := prog_7_method_13_code
def yX5_size : MethodName := ⟨RX5, "size", "(I)I"⟩
abbrev cX5_digit : ByteArray := prog_7_method_14_code
def yX5_digit : MethodName := ⟨RX5, "digit", "(III)I"⟩
abbrev cX5_bay : ByteArray := prog_7_method_15_code
def yX5_bay : MethodName := ⟨RX5, "bay", "(IIII)I"⟩
abbrev cX5_takeBay : ByteArray := prog_7_method_16_code
def yX5_takeBay : MethodName := ⟨RX5, "takeBay", "()V"⟩
abbrev cX5_readBay : ByteArray := prog_7_method_17_code
def yX5_readBay : MethodName := ⟨RX5, "readBay", "(I)Z"⟩
abbrev cX5_readCell : ByteArray := prog_7_method_18_code
def yX5_readCell : MethodName := ⟨RX5, "readCell", "(II)Z"⟩
abbrev cX5_losesOf : ByteArray := prog_7_method_19_code
def yX5_losesOf : MethodName := ⟨RX5, "losesOf", "(I)I"⟩
abbrev cX5_wetBehind : ByteArray := prog_7_method_20_code
def yX5_wetBehind : MethodName := ⟨RX5, "wetBehind", "(II)I"⟩
abbrev cX5_crackedBehind : ByteArray := prog_7_method_21_code
def yX5_crackedBehind : MethodName := ⟨RX5, "crackedBehind", "(I)I"⟩
abbrev cX5_besides : ByteArray := prog_7_method_22_code
def yX5_besides : MethodName := ⟨RX5, "besides", "(I)I"⟩
abbrev cX5_spreadIn : ByteArray := prog_7_method_23_code
def yX5_spreadIn : MethodName := ⟨RX5, "spreadIn", "(II)I"⟩
abbrev cX5_isOpen : ByteArray := prog_7_method_24_code
def yX5_isOpen : MethodName := ⟨RX5, "isOpen", "(I)Z"⟩
abbrev cX5_pieceOf : ByteArray := prog_7_method_25_code
def yX5_pieceOf : MethodName := ⟨RX5, "pieceOf", "(I)I"⟩
abbrev cX5_ofCell : ByteArray := prog_7_method_26_code
def yX5_ofCell : MethodName := ⟨RX5, "ofCell", "(II)I"⟩
abbrev cX5_shine : ByteArray := prog_7_method_27_code
def yX5_shine : MethodName := ⟨RX5, "shine", "(I)I"⟩
abbrev cX5_silt : ByteArray := prog_7_method_28_code
def yX5_silt : MethodName := ⟨RX5, "silt", "(II)I"⟩
abbrev cX5_dryBy : ByteArray := prog_7_method_29_code
def yX5_dryBy : MethodName := ⟨RX5, "dryBy", "(I)V"⟩
abbrev cX5_dry : ByteArray := prog_7_method_30_code
def yX5_dry : MethodName := ⟨RX5, "dry", "(I)I"⟩
abbrev cX5_pouredOn : ByteArray := prog_7_method_31_code
def yX5_pouredOn : MethodName := ⟨RX5, "pouredOn", "(II)I"⟩
abbrev cX5_pour : ByteArray := prog_7_method_32_code
def yX5_pour : MethodName := ⟨RX5, "pour", "(II)I"⟩
abbrev cX5_cracks : ByteArray := prog_7_method_33_code
def yX5_cracks : MethodName := ⟨RX5, "cracks", "(I)I"⟩
abbrev cX5_way : ByteArray := prog_7_method_34_code
def yX5_way : MethodName := ⟨RX5, "way", "(II)I"⟩
abbrev cX5_keep : ByteArray := prog_7_method_35_code
def yX5_keep : MethodName := ⟨RX5, "keep", "()V"⟩
abbrev cX5_putBack : ByteArray := prog_7_method_36_code
def yX5_putBack : MethodName := ⟨RX5, "putBack", "()V"⟩
abbrev cX5_refusesPair : ByteArray := prog_7_method_37_code
def yX5_refusesPair : MethodName := ⟨RX5, "refusesPair", "(II)I"⟩
abbrev cX5_noteOpen : ByteArray := prog_7_method_38_code
def yX5_noteOpen : MethodName := ⟨RX5, "noteOpen", "()V"⟩
abbrev cX5_does : ByteArray := prog_7_method_39_code
def yX5_does : MethodName := ⟨RX5, "does", "(II)Z"⟩
abbrev cX5_goPlan : ByteArray := prog_7_method_40_code
def yX5_goPlan : MethodName := ⟨RX5, "goPlan", "(II)I"⟩
abbrev cX5_plan : ByteArray := prog_7_method_41_code
def yX5_plan : MethodName := ⟨RX5, "plan", "(IIIII)I"⟩
abbrev cX5_tellPlan : ByteArray := prog_7_method_42_code
def yX5_tellPlan : MethodName := ⟨RX5, "tellPlan", "(I)I"⟩
abbrev cX5_when : ByteArray := prog_7_method_43_code
def yX5_when : MethodName := ⟨RX5, "when", "(I)I"⟩
abbrev cX5_opens : ByteArray := prog_7_method_44_code
def yX5_opens : MethodName := ⟨RX5, "opens", "()I"⟩
abbrev cX5_bars : ByteArray := prog_7_method_45_code
def yX5_bars : MethodName := ⟨RX5, "bars", "(I)I"⟩
abbrev cX5_dates : ByteArray := prog_7_method_46_code
def yX5_dates : MethodName := ⟨RX5, "dates", "(I)I"⟩
abbrev cX5_reading : ByteArray := prog_7_method_47_code
def yX5_reading : MethodName := ⟨RX5, "reading", "(III)I"⟩
abbrev cX5_back : ByteArray := prog_7_method_48_code
def yX5_back : MethodName := ⟨RX5, "back", "(I)I"⟩
abbrev cX5_areSo : ByteArray := prog_7_method_49_code
def yX5_areSo : MethodName := ⟨RX5, "areSo", "()Z"⟩
abbrev cX5_wets : ByteArray := prog_7_method_50_code
def yX5_wets : MethodName := ⟨RX5, "wets", "(I)I"⟩
abbrev cX5_kinds : ByteArray := prog_7_method_51_code
def yX5_kinds : MethodName := ⟨RX5, "kinds", "(I)I"⟩
abbrev cX5_suns : ByteArray := prog_7_method_52_code
def yX5_suns : MethodName := ⟨RX5, "suns", "()I"⟩
abbrev cX5_inLeastTerms : ByteArray := prog_7_method_53_code
def yX5_inLeastTerms : MethodName := ⟨RX5, "inLeastTerms", "(JJI)J"⟩
abbrev cX5_odds : ByteArray := prog_7_method_54_code
def yX5_odds : MethodName := ⟨RX5, "odds", "(I)J"⟩
abbrev cX5_sheet : ByteArray := prog_7_method_55_code
def yX5_sheet : MethodName := ⟨RX5, "sheet", "(III)I"⟩
abbrev cX5_lose : ByteArray := prog_7_method_56_code
def yX5_lose : MethodName := ⟨RX5, "lose", "(I)I"⟩
abbrev cX5_put : ByteArray := prog_7_method_57_code
def yX5_put : MethodName := ⟨RX5, "put", "(III)I"⟩
abbrev cX5_cell : ByteArray := prog_7_method_58_code
def yX5_cell : MethodName := ⟨RX5, "cell", "(III)J"⟩
abbrev cX5_copy : ByteArray := prog_7_method_59_code
def yX5_copy : MethodName := ⟨RX5, "copy", "(IIIII)I"⟩
abbrev cX5_begins : ByteArray := prog_7_method_60_code
def yX5_begins : MethodName := ⟨RX5, "begins", "(I)V"⟩
abbrev cX5_tell : ByteArray := prog_7_method_61_code
def yX5_tell : MethodName := ⟨RX5, "tell", "(I)I"⟩
abbrev cX5_draw : ByteArray := prog_7_method_62_code
def yX5_draw : MethodName := ⟨RX5, "draw", "(I)I"⟩
abbrev cX5_as : ByteArray := prog_7_method_63_code
def yX5_as : MethodName := ⟨RX5, "as", "(II)I"⟩
abbrev cX5_trace : ByteArray := prog_7_method_64_code
def yX5_trace : MethodName := ⟨RX5, "trace", "()I"⟩
abbrev cX5_fault : ByteArray := prog_7_method_65_code
def yX5_fault : MethodName := ⟨RX5, "fault", "()I"⟩
abbrev cX5_many : ByteArray := prog_7_method_66_code
def yX5_many : MethodName := ⟨RX5, "many", "(I)I"⟩
def RJ6 : String := "java/lang/Integer"
def TJ6 : u_T := fun k => match k with
  | _ => ("", "", "", false)
def tyJ6 : Nat → FieldType := fun k => match k with
  | _ => .int
abbrev wsJ60 : List Cond := u_ws RJ6 TJ6 0
theorem nmJ6 : ∀ a, a < 0 → ∀ b, b < 0 → a ≠ b → (TJ6 a).2.1 ≠ (TJ6 b).2.1 := by decide +kernel
theorem tyJ6_ok : ∀ k, k < 0 → parseFieldDescriptor (TJ6 k).2.2.1 = some (tyJ6 k) := by decide +kernel
abbrev cJ6_lowestOneBit_0f7a4 : ByteArray := prog_8_method_46_code
def yJ6_lowestOneBit_0f7a4 : MethodName := ⟨RJ6, "lowestOneBit", "(I)I"⟩
abbrev cJ6_bitCount_0f7a4 : ByteArray := prog_8_method_49_code
def yJ6_bitCount_0f7a4 : MethodName := ⟨RJ6, "bitCount", "(I)I"⟩
def RJ9 : String := "java/lang/Math"
def TJ9 : u_T := fun k => match k with
  | _ => ("", "", "", false)
def tyJ9 : Nat → FieldType := fun k => match k with
  | _ => .int
abbrev wsJ90 : List Cond := u_ws RJ9 TJ9 0
theorem nmJ9 : ∀ a, a < 0 → ∀ b, b < 0 → a ≠ b → (TJ9 a).2.1 ≠ (TJ9 b).2.1 := by decide +kernel
theorem tyJ9_ok : ∀ k, k < 0 → parseFieldDescriptor (TJ9 k).2.2.1 = some (tyJ9 k) := by decide +kernel
abbrev cJ9_max_7cf53 : ByteArray := prog_9_method_65_code
def yJ9_max_7cf53 : MethodName := ⟨RJ9, "max", "(II)I"⟩
abbrev cJ9_min_7cf53 : ByteArray := prog_9_method_69_code
def yJ9_min_7cf53 : MethodName := ⟨RJ9, "min", "(II)I"⟩
def RJ10 : String := "java/lang/System"
def TJ10 : u_T := fun k => match k with
  | _ => ("", "", "", false)
def tyJ10 : Nat → FieldType := fun k => match k with
  | _ => .int
abbrev wsJ100 : List Cond := u_ws RJ10 TJ10 0
theorem nmJ10 : ∀ a, a < 0 → ∀ b, b < 0 → a ≠ b → (TJ10 a).2.1 ≠ (TJ10 b).2.1 := by decide +kernel
theorem tyJ10_ok : ∀ k, k < 0 → parseFieldDescriptor (TJ10 k).2.2.1 = some (tyJ10 k) := by decide +kernel
def RL : String := "DriedMapLaw"
abbrev cL_law : ByteArray := code
def yL_law : MethodName := ⟨RL, "law", "([I)Z"⟩
end
section
def tbg : List Cond := lw_tbl.filter goodWord
theorem tp_0 : Cond.selects RX4 yX4_faulted yX4_faulted ∈ tbg := List.mem_filter.mpr ⟨List.mem_append_left _ (List.mem_of_getElem? (i := 0) (by decide +kernel)), rfl⟩
theorem tp_1 : Cond.selects RX0 yX0_setShape yX0_setShape ∈ tbg := List.mem_filter.mpr ⟨List.mem_append_left _ (List.mem_of_getElem? (i := 1) (by decide +kernel)), rfl⟩
theorem tp_2 : Cond.selects RX0 yX0_beside yX0_beside ∈ tbg := List.mem_filter.mpr ⟨List.mem_append_left _ (List.mem_of_getElem? (i := 2) (by decide +kernel)), rfl⟩
theorem tp_3 : Cond.selects RX4 yX4_refusalOfPairs yX4_refusalOfPairs ∈ tbg := List.mem_filter.mpr ⟨List.mem_append_left _ (List.mem_of_getElem? (i := 3) (by decide +kernel)), rfl⟩
theorem tp_4 : Cond.selects RX3 yX3_canDo yX3_canDo ∈ tbg := List.mem_filter.mpr ⟨List.mem_append_left _ (List.mem_of_getElem? (i := 4) (by decide +kernel)), rfl⟩
theorem tp_5 : Cond.selects RX3 yX3_goHours yX3_goHours ∈ tbg := List.mem_filter.mpr ⟨List.mem_append_left _ (List.mem_of_getElem? (i := 5) (by decide +kernel)), rfl⟩
theorem tp_6 : Cond.selects RX2 yX2_cutToLane yX2_cutToLane ∈ tbg := List.mem_filter.mpr ⟨List.mem_append_left _ (List.mem_of_getElem? (i := 6) (by decide +kernel)), rfl⟩
theorem tp_7 : Cond.selects RX4 yX4_tellingOfSand yX4_tellingOfSand ∈ tbg := List.mem_filter.mpr ⟨List.mem_append_left _ (List.mem_of_getElem? (i := 7) (by decide +kernel)), rfl⟩
theorem tp_8 : Cond.selects RX4 yX4_leave yX4_leave ∈ tbg := List.mem_filter.mpr ⟨List.mem_append_left _ (List.mem_of_getElem? (i := 8) (by decide +kernel)), rfl⟩
theorem tp_9 : Cond.selects RX4 yX4_tellingOfMud yX4_tellingOfMud ∈ tbg := List.mem_filter.mpr ⟨List.mem_append_left _ (List.mem_of_getElem? (i := 9) (by decide +kernel)), rfl⟩
theorem tp_10 : Cond.selects RX4 yX4_tellingOfClay yX4_tellingOfClay ∈ tbg := List.mem_filter.mpr ⟨List.mem_append_left _ (List.mem_of_getElem? (i := 10) (by decide +kernel)), rfl⟩
theorem tp_11 : Cond.selects RX5 yX5_against yX5_against ∈ tbg := List.mem_filter.mpr ⟨List.mem_append_left _ (List.mem_of_getElem? (i := 11) (by decide +kernel)), rfl⟩
theorem tp_12 : Cond.selects RX5 yX5_fails yX5_fails ∈ tbg := List.mem_filter.mpr ⟨List.mem_append_left _ (List.mem_of_getElem? (i := 12) (by decide +kernel)), rfl⟩
theorem tp_13 : Cond.selects RX5 yX5_readBay yX5_readBay ∈ tbg := List.mem_filter.mpr ⟨List.mem_append_left _ (List.mem_of_getElem? (i := 13) (by decide +kernel)), rfl⟩
theorem tp_14 : Cond.selects RX5 yX5_digit yX5_digit ∈ tbg := List.mem_filter.mpr ⟨List.mem_append_left _ (List.mem_of_getElem? (i := 14) (by decide +kernel)), rfl⟩
theorem tp_15 : Cond.selects RX5 yX5_readCell yX5_readCell ∈ tbg := List.mem_filter.mpr ⟨List.mem_append_left _ (List.mem_of_getElem? (i := 15) (by decide +kernel)), rfl⟩
theorem tp_16 : Cond.selects RX5 yX5_takeBay yX5_takeBay ∈ tbg := List.mem_filter.mpr ⟨List.mem_append_left _ (List.mem_of_getElem? (i := 16) (by decide +kernel)), rfl⟩
theorem tp_17 : Cond.selects RX5 yX5_cellsOf yX5_cellsOf ∈ tbg := List.mem_filter.mpr ⟨List.mem_append_left _ (List.mem_of_getElem? (i := 17) (by decide +kernel)), rfl⟩
theorem tp_18 : Cond.selects RX5 yX5_isCell yX5_isCell ∈ tbg := List.mem_filter.mpr ⟨List.mem_append_left _ (List.mem_of_getElem? (i := 18) (by decide +kernel)), rfl⟩
theorem tp_19 : Cond.selects RX5 yX5_losesOf yX5_losesOf ∈ tbg := List.mem_filter.mpr ⟨List.mem_append_left _ (List.mem_of_getElem? (i := 19) (by decide +kernel)), rfl⟩
theorem tp_20 : Cond.selects RX5 yX5_pieceOf yX5_pieceOf ∈ tbg := List.mem_filter.mpr ⟨List.mem_append_left _ (List.mem_of_getElem? (i := 20) (by decide +kernel)), rfl⟩
theorem tp_21 : Cond.selects RX5 yX5_crackedBehind yX5_crackedBehind ∈ tbg := List.mem_filter.mpr ⟨List.mem_append_left _ (List.mem_of_getElem? (i := 21) (by decide +kernel)), rfl⟩
theorem tp_22 : Cond.selects RX5 yX5_wetBehind yX5_wetBehind ∈ tbg := List.mem_filter.mpr ⟨List.mem_append_left _ (List.mem_of_getElem? (i := 22) (by decide +kernel)), rfl⟩
theorem tp_23 : Cond.selects RX5 yX5_spreadIn yX5_spreadIn ∈ tbg := List.mem_filter.mpr ⟨List.mem_append_left _ (List.mem_of_getElem? (i := 23) (by decide +kernel)), rfl⟩
theorem tp_24 : Cond.selects RX5 yX5_besides yX5_besides ∈ tbg := List.mem_filter.mpr ⟨List.mem_append_left _ (List.mem_of_getElem? (i := 24) (by decide +kernel)), rfl⟩
theorem tp_25 : Cond.selects RX5 yX5_dryBy yX5_dryBy ∈ tbg := List.mem_filter.mpr ⟨List.mem_append_left _ (List.mem_of_getElem? (i := 25) (by decide +kernel)), rfl⟩
theorem tp_26 : Cond.selects RX5 yX5_pouredOn yX5_pouredOn ∈ tbg := List.mem_filter.mpr ⟨List.mem_append_left _ (List.mem_of_getElem? (i := 26) (by decide +kernel)), rfl⟩
theorem tp_27 : Cond.selects RX5 yX5_isOpen yX5_isOpen ∈ tbg := List.mem_filter.mpr ⟨List.mem_append_left _ (List.mem_of_getElem? (i := 27) (by decide +kernel)), rfl⟩
theorem tp_28 : Cond.selects RX5 yX5_refusesPair yX5_refusesPair ∈ tbg := List.mem_filter.mpr ⟨List.mem_append_left _ (List.mem_of_getElem? (i := 28) (by decide +kernel)), rfl⟩
theorem tp_29 : Cond.selects RX5 yX5_keep yX5_keep ∈ tbg := List.mem_filter.mpr ⟨List.mem_append_left _ (List.mem_of_getElem? (i := 29) (by decide +kernel)), rfl⟩
theorem tp_30 : Cond.selects RX5 yX5_goPlan yX5_goPlan ∈ tbg := List.mem_filter.mpr ⟨List.mem_append_left _ (List.mem_of_getElem? (i := 30) (by decide +kernel)), rfl⟩
theorem tp_31 : Cond.selects RX5 yX5_noteOpen yX5_noteOpen ∈ tbg := List.mem_filter.mpr ⟨List.mem_append_left _ (List.mem_of_getElem? (i := 31) (by decide +kernel)), rfl⟩
theorem tp_32 : Cond.selects RX5 yX5_does yX5_does ∈ tbg := List.mem_filter.mpr ⟨List.mem_append_left _ (List.mem_of_getElem? (i := 32) (by decide +kernel)), rfl⟩
theorem tp_33 : Cond.selects RX5 yX5_tellPlan yX5_tellPlan ∈ tbg := List.mem_filter.mpr ⟨List.mem_append_left _ (List.mem_of_getElem? (i := 33) (by decide +kernel)), rfl⟩
theorem tp_34 : Cond.selects RX5 yX5_putBack yX5_putBack ∈ tbg := List.mem_filter.mpr ⟨List.mem_append_left _ (List.mem_of_getElem? (i := 34) (by decide +kernel)), rfl⟩
theorem tp_35 : Cond.selects RX5 yX5_areSo yX5_areSo ∈ tbg := List.mem_filter.mpr ⟨List.mem_append_left _ (List.mem_of_getElem? (i := 35) (by decide +kernel)), rfl⟩
theorem tp_36 : Cond.selects RX5 yX5_lost yX5_lost ∈ tbg := List.mem_filter.mpr ⟨List.mem_append_left _ (List.mem_of_getElem? (i := 36) (by decide +kernel)), rfl⟩
theorem tp_37 : Cond.selects RX5 yX5_begins yX5_begins ∈ tbg := List.mem_filter.mpr ⟨List.mem_append_left _ (List.mem_of_getElem? (i := 37) (by decide +kernel)), rfl⟩
theorem tw_0 : Cond.initialized RL ∈ tbg := List.mem_filter.mpr ⟨List.mem_append_right _ (List.mem_of_getElem? (i := 0) (by decide +kernel)), rfl⟩
theorem tw_1 : Cond.initialized RX4 ∈ tbg := List.mem_filter.mpr ⟨List.mem_append_right _ (List.mem_of_getElem? (i := 1) (by decide +kernel)), rfl⟩
theorem tw_2 : Cond.initialized RX0 ∈ tbg := List.mem_filter.mpr ⟨List.mem_append_right _ (List.mem_of_getElem? (i := 2) (by decide +kernel)), rfl⟩
theorem tw_3 : Cond.initialized RX3 ∈ tbg := List.mem_filter.mpr ⟨List.mem_append_right _ (List.mem_of_getElem? (i := 3) (by decide +kernel)), rfl⟩
theorem tw_4 : Cond.initialized RX1 ∈ tbg := List.mem_filter.mpr ⟨List.mem_append_right _ (List.mem_of_getElem? (i := 4) (by decide +kernel)), rfl⟩
theorem tw_5 : Cond.initialized RX2 ∈ tbg := List.mem_filter.mpr ⟨List.mem_append_right _ (List.mem_of_getElem? (i := 5) (by decide +kernel)), rfl⟩
theorem tw_6 : Cond.initialized RX5 ∈ tbg := List.mem_filter.mpr ⟨List.mem_append_right _ (List.mem_of_getElem? (i := 6) (by decide +kernel)), rfl⟩
theorem tw_7 : Cond.initialized RJ9 ∈ tbg := List.mem_filter.mpr ⟨List.mem_append_right _ (List.mem_of_getElem? (i := 7) (by decide +kernel)), rfl⟩
theorem tw_8 : Cond.initialized RJ6 ∈ tbg := List.mem_filter.mpr ⟨List.mem_append_right _ (List.mem_of_getElem? (i := 8) (by decide +kernel)), rfl⟩
theorem tw_9 : Cond.initialized RJ10 ∈ tbg := List.mem_filter.mpr ⟨List.mem_append_right _ (List.mem_of_getElem? (i := 9) (by decide +kernel)), rfl⟩
theorem tw_10 : Cond.classLink RL 7 "DriedMap" ∈ tbg := List.mem_filter.mpr ⟨List.mem_append_right _ (List.mem_of_getElem? (i := 10) (by decide +kernel)), rfl⟩
theorem tw_11 : Cond.instantiable RX4 7 ∈ tbg := List.mem_filter.mpr ⟨List.mem_append_right _ (List.mem_of_getElem? (i := 11) (by decide +kernel)), rfl⟩
theorem tw_12 : Cond.methodLink RL 9 yX4_init ∈ tbg := List.mem_filter.mpr ⟨List.mem_append_right _ (List.mem_of_getElem? (i := 12) (by decide +kernel)), rfl⟩
theorem tw_13 : Cond.instanceMethod yX4_init ∈ tbg := List.mem_filter.mpr ⟨List.mem_append_right _ (List.mem_of_getElem? (i := 13) (by decide +kernel)), rfl⟩
theorem tw_14 : Cond.code yX4_init prog_1_method_1_code 2 none ∈ tbg := List.mem_filter.mpr ⟨List.mem_append_right _ (List.mem_of_getElem? (i := 14) (by decide +kernel)), rfl⟩
theorem tw_15 : Cond.methodLink RX4 3 objectInit ∈ tbg := List.mem_filter.mpr ⟨List.mem_append_right _ (List.mem_of_getElem? (i := 15) (by decide +kernel)), rfl⟩
theorem tw_16 : Cond.instanceMethod objectInit ∈ tbg := List.mem_filter.mpr ⟨List.mem_append_right _ (List.mem_of_getElem? (i := 16) (by decide +kernel)), rfl⟩
theorem tw_17 : Cond.code objectInit object_method_1_code 1 none ∈ tbg := List.mem_filter.mpr ⟨List.mem_append_right _ (List.mem_of_getElem? (i := 17) (by decide +kernel)), rfl⟩
theorem tw_18 : Cond.classLink RX4 9 "DriedMap$Flat" ∈ tbg := List.mem_filter.mpr ⟨List.mem_append_right _ (List.mem_of_getElem? (i := 18) (by decide +kernel)), rfl⟩
theorem tw_19 : Cond.instantiable RX0 9 ∈ tbg := List.mem_filter.mpr ⟨List.mem_append_right _ (List.mem_of_getElem? (i := 19) (by decide +kernel)), rfl⟩
theorem tw_20 : Cond.methodLink RX4 11 yX0_init ∈ tbg := List.mem_filter.mpr ⟨List.mem_append_right _ (List.mem_of_getElem? (i := 20) (by decide +kernel)), rfl⟩
theorem tw_21 : Cond.instanceMethod yX0_init ∈ tbg := List.mem_filter.mpr ⟨List.mem_append_right _ (List.mem_of_getElem? (i := 21) (by decide +kernel)), rfl⟩
theorem tw_22 : Cond.code yX0_init prog_2_method_1_code 1 none ∈ tbg := List.mem_filter.mpr ⟨List.mem_append_right _ (List.mem_of_getElem? (i := 22) (by decide +kernel)), rfl⟩
theorem tw_23 : Cond.methodLink RX0 3 objectInit ∈ tbg := List.mem_filter.mpr ⟨List.mem_append_right _ (List.mem_of_getElem? (i := 23) (by decide +kernel)), rfl⟩
theorem tw_24 : Cond.fieldLink RX0 9 "DriedMap$Flat" "kind" "[I" ∈ tbg := List.mem_filter.mpr ⟨List.mem_append_right _ (List.mem_of_getElem? (i := 24) (by decide +kernel)), rfl⟩
theorem tw_25 : Cond.fieldLinkNest RX4 84 "DriedMap$Flat" "kind" "[I" "DriedMap" ∈ lw_tbl := List.mem_append_right _ (List.mem_of_getElem? (i := 25) (by decide +kernel))
theorem tw_26 : Cond.fieldLink RX0 15 "DriedMap$Flat" "wet" "[I" ∈ tbg := List.mem_filter.mpr ⟨List.mem_append_right _ (List.mem_of_getElem? (i := 26) (by decide +kernel)), rfl⟩
theorem tw_27 : Cond.fieldLinkNest RX4 88 "DriedMap$Flat" "wet" "[I" "DriedMap" ∈ lw_tbl := List.mem_append_right _ (List.mem_of_getElem? (i := 27) (by decide +kernel))
theorem tw_28 : Cond.fieldLinkNest RX3 69 "DriedMap$Flat" "wet" "[I" "DriedMap" ∈ lw_tbl := List.mem_append_right _ (List.mem_of_getElem? (i := 28) (by decide +kernel))
theorem tw_29 : Cond.fieldLink RX0 18 "DriedMap$Flat" "wide" "I" ∈ tbg := List.mem_filter.mpr ⟨List.mem_append_right _ (List.mem_of_getElem? (i := 29) (by decide +kernel)), rfl⟩
theorem tw_30 : Cond.fieldLinkNest RX4 223 "DriedMap$Flat" "wide" "I" "DriedMap" ∈ lw_tbl := List.mem_append_right _ (List.mem_of_getElem? (i := 30) (by decide +kernel))
theorem tw_31 : Cond.fieldLink RX0 22 "DriedMap$Flat" "rows" "I" ∈ tbg := List.mem_filter.mpr ⟨List.mem_append_right _ (List.mem_of_getElem? (i := 31) (by decide +kernel)), rfl⟩
theorem tw_32 : Cond.fieldLinkNest RX4 226 "DriedMap$Flat" "rows" "I" "DriedMap" ∈ lw_tbl := List.mem_append_right _ (List.mem_of_getElem? (i := 32) (by decide +kernel))
theorem tw_33 : Cond.fieldLink RX0 25 "DriedMap$Flat" "cells" "I" ∈ tbg := List.mem_filter.mpr ⟨List.mem_append_right _ (List.mem_of_getElem? (i := 33) (by decide +kernel)), rfl⟩
theorem tw_34 : Cond.fieldLinkNest RX4 78 "DriedMap$Flat" "cells" "I" "DriedMap" ∈ lw_tbl := List.mem_append_right _ (List.mem_of_getElem? (i := 34) (by decide +kernel))
theorem tw_35 : Cond.fieldLink RX0 28 "DriedMap$Flat" "sun" "I" ∈ tbg := List.mem_filter.mpr ⟨List.mem_append_right _ (List.mem_of_getElem? (i := 35) (by decide +kernel)), rfl⟩
theorem tw_36 : Cond.fieldLinkNest RX3 53 "DriedMap$Flat" "sun" "I" "DriedMap" ∈ lw_tbl := List.mem_append_right _ (List.mem_of_getElem? (i := 36) (by decide +kernel))
theorem tw_37 : Cond.fieldLinkNest RX4 115 "DriedMap$Flat" "sun" "I" "DriedMap" ∈ lw_tbl := List.mem_append_right _ (List.mem_of_getElem? (i := 37) (by decide +kernel))
theorem tw_38 : Cond.fieldLink RX0 31 "DriedMap$Flat" "all" "I" ∈ tbg := List.mem_filter.mpr ⟨List.mem_append_right _ (List.mem_of_getElem? (i := 38) (by decide +kernel)), rfl⟩
theorem tw_39 : Cond.fieldLinkNest RX4 159 "DriedMap$Flat" "all" "I" "DriedMap" ∈ lw_tbl := List.mem_append_right _ (List.mem_of_getElem? (i := 39) (by decide +kernel))
theorem tw_40 : Cond.fieldLink RX0 34 "DriedMap$Flat" "firstColumn" "I" ∈ tbg := List.mem_filter.mpr ⟨List.mem_append_right _ (List.mem_of_getElem? (i := 40) (by decide +kernel)), rfl⟩
theorem tw_41 : Cond.fieldLink RX0 37 "DriedMap$Flat" "lastColumn" "I" ∈ tbg := List.mem_filter.mpr ⟨List.mem_append_right _ (List.mem_of_getElem? (i := 41) (by decide +kernel)), rfl⟩
theorem tw_61 : Cond.arrayClass FieldType.int ∈ tbg := List.mem_filter.mpr ⟨List.mem_append_right _ (List.mem_of_getElem? (i := 61) (by decide +kernel)), rfl⟩
theorem tw_62 : Cond.classLink RX4 18 "DriedMap$Trial" ∈ tbg := List.mem_filter.mpr ⟨List.mem_append_right _ (List.mem_of_getElem? (i := 62) (by decide +kernel)), rfl⟩
theorem tw_63 : Cond.instantiable RX3 4 ∈ tbg := List.mem_filter.mpr ⟨List.mem_append_right _ (List.mem_of_getElem? (i := 63) (by decide +kernel)), rfl⟩
theorem tw_64 : Cond.methodLink RX4 20 yX3_init ∈ tbg := List.mem_filter.mpr ⟨List.mem_append_right _ (List.mem_of_getElem? (i := 64) (by decide +kernel)), rfl⟩
theorem tw_65 : Cond.instanceMethod yX3_init ∈ tbg := List.mem_filter.mpr ⟨List.mem_append_right _ (List.mem_of_getElem? (i := 65) (by decide +kernel)), rfl⟩
theorem tw_66 : Cond.code yX3_init prog_5_method_1_code 1 none ∈ tbg := List.mem_filter.mpr ⟨List.mem_append_right _ (List.mem_of_getElem? (i := 66) (by decide +kernel)), rfl⟩
theorem tw_67 : Cond.methodLink RX3 3 objectInit ∈ tbg := List.mem_filter.mpr ⟨List.mem_append_right _ (List.mem_of_getElem? (i := 67) (by decide +kernel)), rfl⟩
theorem tw_68 : Cond.classLink RX3 9 "DriedMap$Flat" ∈ tbg := List.mem_filter.mpr ⟨List.mem_append_right _ (List.mem_of_getElem? (i := 68) (by decide +kernel)), rfl⟩
theorem tw_69 : Cond.methodLink RX3 11 yX0_init ∈ tbg := List.mem_filter.mpr ⟨List.mem_append_right _ (List.mem_of_getElem? (i := 69) (by decide +kernel)), rfl⟩
theorem tw_70 : Cond.fieldLink RX3 12 "DriedMap$Trial" "flat" "LDriedMap$Flat;" ∈ tbg := List.mem_filter.mpr ⟨List.mem_append_right _ (List.mem_of_getElem? (i := 70) (by decide +kernel)), rfl⟩
theorem tw_71 : Cond.fieldLinkNest RX4 166 "DriedMap$Trial" "flat" "LDriedMap$Flat;" "DriedMap" ∈ lw_tbl := List.mem_append_right _ (List.mem_of_getElem? (i := 71) (by decide +kernel))
theorem tw_72 : Cond.fieldLink RX3 18 "DriedMap$Trial" "hours" "I" ∈ tbg := List.mem_filter.mpr ⟨List.mem_append_right _ (List.mem_of_getElem? (i := 72) (by decide +kernel)), rfl⟩
theorem tw_73 : Cond.fieldLink RX3 22 "DriedMap$Trial" "opened" "I" ∈ tbg := List.mem_filter.mpr ⟨List.mem_append_right _ (List.mem_of_getElem? (i := 73) (by decide +kernel)), rfl⟩
theorem tw_74 : Cond.fieldLink RX3 25 "DriedMap$Trial" "firstWrong" "I" ∈ tbg := List.mem_filter.mpr ⟨List.mem_append_right _ (List.mem_of_getElem? (i := 74) (by decide +kernel)), rfl⟩
theorem tw_84 : Cond.classLink RX4 25 "DriedMap$Readings" ∈ tbg := List.mem_filter.mpr ⟨List.mem_append_right _ (List.mem_of_getElem? (i := 84) (by decide +kernel)), rfl⟩
theorem tw_85 : Cond.instantiable RX1 4 ∈ tbg := List.mem_filter.mpr ⟨List.mem_append_right _ (List.mem_of_getElem? (i := 85) (by decide +kernel)), rfl⟩
theorem tw_86 : Cond.methodLink RX4 27 yX1_init ∈ tbg := List.mem_filter.mpr ⟨List.mem_append_right _ (List.mem_of_getElem? (i := 86) (by decide +kernel)), rfl⟩
theorem tw_87 : Cond.instanceMethod yX1_init ∈ tbg := List.mem_filter.mpr ⟨List.mem_append_right _ (List.mem_of_getElem? (i := 87) (by decide +kernel)), rfl⟩
theorem tw_88 : Cond.code yX1_init prog_3_method_1_code 1 none ∈ tbg := List.mem_filter.mpr ⟨List.mem_append_right _ (List.mem_of_getElem? (i := 88) (by decide +kernel)), rfl⟩
theorem tw_89 : Cond.methodLink RX1 3 objectInit ∈ tbg := List.mem_filter.mpr ⟨List.mem_append_right _ (List.mem_of_getElem? (i := 89) (by decide +kernel)), rfl⟩
theorem tw_90 : Cond.fieldLink RX1 9 "DriedMap$Readings" "cells" "[I" ∈ tbg := List.mem_filter.mpr ⟨List.mem_append_right _ (List.mem_of_getElem? (i := 90) (by decide +kernel)), rfl⟩
theorem tw_91 : Cond.fieldLink RX1 15 "DriedMap$Readings" "hours" "[I" ∈ tbg := List.mem_filter.mpr ⟨List.mem_append_right _ (List.mem_of_getElem? (i := 91) (by decide +kernel)), rfl⟩
theorem tw_92 : Cond.fieldLink RX1 18 "DriedMap$Readings" "cracked" "[I" ∈ tbg := List.mem_filter.mpr ⟨List.mem_append_right _ (List.mem_of_getElem? (i := 92) (by decide +kernel)), rfl⟩
theorem tw_93 : Cond.fieldLink RX1 21 "DriedMap$Readings" "count" "I" ∈ tbg := List.mem_filter.mpr ⟨List.mem_append_right _ (List.mem_of_getElem? (i := 93) (by decide +kernel)), rfl⟩
theorem tw_94 : Cond.fieldLinkNest RX4 75 "DriedMap$Readings" "count" "I" "DriedMap" ∈ lw_tbl := List.mem_append_right _ (List.mem_of_getElem? (i := 94) (by decide +kernel))
theorem tw_104 : Cond.classLink RX4 32 "DriedMap$Sheet" ∈ tbg := List.mem_filter.mpr ⟨List.mem_append_right _ (List.mem_of_getElem? (i := 104) (by decide +kernel)), rfl⟩
theorem tw_105 : Cond.arrayOver (FieldType.object "DriedMap$Sheet") ∈ lw_tbl := List.mem_append_right _ (List.mem_of_getElem? (i := 105) (by decide +kernel))
theorem tw_106 : Cond.instantiable RX2 3 ∈ tbg := List.mem_filter.mpr ⟨List.mem_append_right _ (List.mem_of_getElem? (i := 106) (by decide +kernel)), rfl⟩
theorem tw_107 : Cond.methodLink RX4 38 yX2_init ∈ tbg := List.mem_filter.mpr ⟨List.mem_append_right _ (List.mem_of_getElem? (i := 107) (by decide +kernel)), rfl⟩
theorem tw_108 : Cond.instanceMethod yX2_init ∈ tbg := List.mem_filter.mpr ⟨List.mem_append_right _ (List.mem_of_getElem? (i := 108) (by decide +kernel)), rfl⟩
theorem tw_109 : Cond.code yX2_init prog_4_method_1_code 1 none ∈ tbg := List.mem_filter.mpr ⟨List.mem_append_right _ (List.mem_of_getElem? (i := 109) (by decide +kernel)), rfl⟩
theorem tw_110 : Cond.methodLink RX2 3 objectInit ∈ tbg := List.mem_filter.mpr ⟨List.mem_append_right _ (List.mem_of_getElem? (i := 110) (by decide +kernel)), rfl⟩
theorem tw_111 : Cond.fieldLink RX2 9 "DriedMap$Sheet" "row" "[I" ∈ tbg := List.mem_filter.mpr ⟨List.mem_append_right _ (List.mem_of_getElem? (i := 111) (by decide +kernel)), rfl⟩
theorem tw_112 : Cond.fieldLinkNest RX4 202 "DriedMap$Sheet" "row" "[I" "DriedMap" ∈ lw_tbl := List.mem_append_right _ (List.mem_of_getElem? (i := 112) (by decide +kernel))
theorem tw_113 : Cond.fieldLink RX2 15 "DriedMap$Sheet" "lane" "I" ∈ tbg := List.mem_filter.mpr ⟨List.mem_append_right _ (List.mem_of_getElem? (i := 113) (by decide +kernel)), rfl⟩
theorem tw_114 : Cond.fieldLinkNest RX4 199 "DriedMap$Sheet" "lane" "I" "DriedMap" ∈ lw_tbl := List.mem_append_right _ (List.mem_of_getElem? (i := 114) (by decide +kernel))
theorem tw_115 : Cond.fieldLink RX2 19 "DriedMap$Sheet" "length" "I" ∈ tbg := List.mem_filter.mpr ⟨List.mem_append_right _ (List.mem_of_getElem? (i := 115) (by decide +kernel)), rfl⟩
theorem tw_123 : Cond.fieldLink RX4 12 "DriedMap" "flat" "LDriedMap$Flat;" ∈ tbg := List.mem_filter.mpr ⟨List.mem_append_right _ (List.mem_of_getElem? (i := 123) (by decide +kernel)), rfl⟩
theorem tw_124 : Cond.fieldLink RX4 21 "DriedMap" "trial" "LDriedMap$Trial;" ∈ tbg := List.mem_filter.mpr ⟨List.mem_append_right _ (List.mem_of_getElem? (i := 124) (by decide +kernel)), rfl⟩
theorem tw_125 : Cond.fieldLink RX4 28 "DriedMap" "readings" "LDriedMap$Readings;" ∈ tbg := List.mem_filter.mpr ⟨List.mem_append_right _ (List.mem_of_getElem? (i := 125) (by decide +kernel)), rfl⟩
theorem tw_126 : Cond.fieldLink RX4 34 "DriedMap" "sheets" "[LDriedMap$Sheet;" ∈ tbg := List.mem_filter.mpr ⟨List.mem_append_right _ (List.mem_of_getElem? (i := 126) (by decide +kernel)), rfl⟩
theorem tw_127 : Cond.fieldLink RX4 39 "DriedMap" "hour" "I" ∈ tbg := List.mem_filter.mpr ⟨List.mem_append_right _ (List.mem_of_getElem? (i := 127) (by decide +kernel)), rfl⟩
theorem tw_128 : Cond.fieldLink RX4 43 "DriedMap" "traced" "I" ∈ tbg := List.mem_filter.mpr ⟨List.mem_append_right _ (List.mem_of_getElem? (i := 128) (by decide +kernel)), rfl⟩
theorem tw_129 : Cond.fieldLink RX4 46 "DriedMap" "latestFault" "I" ∈ tbg := List.mem_filter.mpr ⟨List.mem_append_right _ (List.mem_of_getElem? (i := 129) (by decide +kernel)), rfl⟩
theorem tw_145 : Cond.methodLink RL 13 yX4_bay ∈ tbg := List.mem_filter.mpr ⟨List.mem_append_right _ (List.mem_of_getElem? (i := 145) (by decide +kernel)), rfl⟩
theorem tw_146 : Cond.instanceMethod yX4_bay ∈ tbg := List.mem_filter.mpr ⟨List.mem_append_right _ (List.mem_of_getElem? (i := 146) (by decide +kernel)), rfl⟩
theorem tw_147 : Cond.selects RX4 yX4_bay yX4_bay ∈ tbg := List.mem_filter.mpr ⟨List.mem_append_right _ (List.mem_of_getElem? (i := 147) (by decide +kernel)), rfl⟩
theorem tw_148 : Cond.code yX4_bay prog_1_method_2_code 8 (some FieldType.int) ∈ tbg := List.mem_filter.mpr ⟨List.mem_append_right _ (List.mem_of_getElem? (i := 148) (by decide +kernel)), rfl⟩
theorem tw_149 : Cond.methodLink RX4 49 yX4_isSheet ∈ tbg := List.mem_filter.mpr ⟨List.mem_append_right _ (List.mem_of_getElem? (i := 149) (by decide +kernel)), rfl⟩
theorem tw_150 : Cond.static yX4_isSheet ∈ tbg := List.mem_filter.mpr ⟨List.mem_append_right _ (List.mem_of_getElem? (i := 150) (by decide +kernel)), rfl⟩
theorem tw_151 : Cond.code yX4_isSheet prog_1_method_33_code 1 (some FieldType.boolean) ∈ tbg := List.mem_filter.mpr ⟨List.mem_append_right _ (List.mem_of_getElem? (i := 151) (by decide +kernel)), rfl⟩
theorem tw_152 : Cond.methodLink RX4 107 yX4_within ∈ tbg := List.mem_filter.mpr ⟨List.mem_append_right _ (List.mem_of_getElem? (i := 152) (by decide +kernel)), rfl⟩
theorem tw_153 : Cond.static yX4_within ∈ tbg := List.mem_filter.mpr ⟨List.mem_append_right _ (List.mem_of_getElem? (i := 153) (by decide +kernel)), rfl⟩
theorem tw_154 : Cond.code yX4_within prog_1_method_32_code 3 (some FieldType.boolean) ∈ tbg := List.mem_filter.mpr ⟨List.mem_append_right _ (List.mem_of_getElem? (i := 154) (by decide +kernel)), rfl⟩
theorem tw_155 : Cond.methodLink RX4 53 yX4_isLane ∈ tbg := List.mem_filter.mpr ⟨List.mem_append_right _ (List.mem_of_getElem? (i := 155) (by decide +kernel)), rfl⟩
theorem tw_156 : Cond.static yX4_isLane ∈ tbg := List.mem_filter.mpr ⟨List.mem_append_right _ (List.mem_of_getElem? (i := 156) (by decide +kernel)), rfl⟩
theorem tw_157 : Cond.code yX4_isLane prog_1_method_34_code 1 (some FieldType.boolean) ∈ tbg := List.mem_filter.mpr ⟨List.mem_append_right _ (List.mem_of_getElem? (i := 157) (by decide +kernel)), rfl⟩
theorem tw_158 : Cond.methodLink RX4 56 yX2_faultAs ∈ tbg := List.mem_filter.mpr ⟨List.mem_append_right _ (List.mem_of_getElem? (i := 158) (by decide +kernel)), rfl⟩
theorem tw_159 : Cond.instanceMethod yX2_faultAs ∈ tbg := List.mem_filter.mpr ⟨List.mem_append_right _ (List.mem_of_getElem? (i := 159) (by decide +kernel)), rfl⟩
theorem tw_160 : Cond.selects RX2 yX2_faultAs yX2_faultAs ∈ tbg := List.mem_filter.mpr ⟨List.mem_append_right _ (List.mem_of_getElem? (i := 160) (by decide +kernel)), rfl⟩
theorem tw_161 : Cond.code yX2_faultAs prog_4_method_5_code 2 (some FieldType.int) ∈ tbg := List.mem_filter.mpr ⟨List.mem_append_right _ (List.mem_of_getElem? (i := 161) (by decide +kernel)), rfl⟩
theorem tw_162 : Cond.methodLink RX2 22 yX2_isNothing ∈ tbg := List.mem_filter.mpr ⟨List.mem_append_right _ (List.mem_of_getElem? (i := 162) (by decide +kernel)), rfl⟩
theorem tw_163 : Cond.instanceMethod yX2_isNothing ∈ tbg := List.mem_filter.mpr ⟨List.mem_append_right _ (List.mem_of_getElem? (i := 163) (by decide +kernel)), rfl⟩
theorem tw_164 : Cond.selects RX2 yX2_isNothing yX2_isNothing ∈ tbg := List.mem_filter.mpr ⟨List.mem_append_right _ (List.mem_of_getElem? (i := 164) (by decide +kernel)), rfl⟩
theorem tw_165 : Cond.code yX2_isNothing prog_4_method_2_code 1 (some FieldType.boolean) ∈ tbg := List.mem_filter.mpr ⟨List.mem_append_right _ (List.mem_of_getElem? (i := 165) (by decide +kernel)), rfl⟩
theorem tw_166 : Cond.methodLink RX4 60 yX2_has ∈ tbg := List.mem_filter.mpr ⟨List.mem_append_right _ (List.mem_of_getElem? (i := 166) (by decide +kernel)), rfl⟩
theorem tw_167 : Cond.instanceMethod yX2_has ∈ tbg := List.mem_filter.mpr ⟨List.mem_append_right _ (List.mem_of_getElem? (i := 167) (by decide +kernel)), rfl⟩
theorem tw_168 : Cond.selects RX2 yX2_has yX2_has ∈ tbg := List.mem_filter.mpr ⟨List.mem_append_right _ (List.mem_of_getElem? (i := 168) (by decide +kernel)), rfl⟩
theorem tw_169 : Cond.code yX2_has prog_4_method_7_code 3 (some FieldType.boolean) ∈ tbg := List.mem_filter.mpr ⟨List.mem_append_right _ (List.mem_of_getElem? (i := 169) (by decide +kernel)), rfl⟩
theorem tw_170 : Cond.methodLink RX4 64 yX4_faulted ∈ tbg := List.mem_filter.mpr ⟨List.mem_append_right _ (List.mem_of_getElem? (i := 170) (by decide +kernel)), rfl⟩
theorem tw_172 : Cond.instanceMethod yX4_faulted ∈ tbg := List.mem_filter.mpr ⟨List.mem_append_right _ (List.mem_of_getElem? (i := 172) (by decide +kernel)), rfl⟩
theorem tw_173 : Cond.code yX4_faulted prog_1_method_35_code 2 (some FieldType.int) ∈ tbg := List.mem_filter.mpr ⟨List.mem_append_right _ (List.mem_of_getElem? (i := 173) (by decide +kernel)), rfl⟩
theorem tw_174 : Cond.methodLink RX4 67 yX4_firstFault ∈ tbg := List.mem_filter.mpr ⟨List.mem_append_right _ (List.mem_of_getElem? (i := 174) (by decide +kernel)), rfl⟩
theorem tw_175 : Cond.static yX4_firstFault ∈ tbg := List.mem_filter.mpr ⟨List.mem_append_right _ (List.mem_of_getElem? (i := 175) (by decide +kernel)), rfl⟩
theorem tw_176 : Cond.code yX4_firstFault prog_1_method_41_code 4 (some FieldType.int) ∈ tbg := List.mem_filter.mpr ⟨List.mem_append_right _ (List.mem_of_getElem? (i := 176) (by decide +kernel)), rfl⟩
theorem tw_177 : Cond.methodLink RX4 229 yX4_goesOn ∈ tbg := List.mem_filter.mpr ⟨List.mem_append_right _ (List.mem_of_getElem? (i := 177) (by decide +kernel)), rfl⟩
theorem tw_178 : Cond.static yX4_goesOn ∈ tbg := List.mem_filter.mpr ⟨List.mem_append_right _ (List.mem_of_getElem? (i := 178) (by decide +kernel)), rfl⟩
theorem tw_179 : Cond.code yX4_goesOn prog_1_method_42_code 4 (some FieldType.boolean) ∈ tbg := List.mem_filter.mpr ⟨List.mem_append_right _ (List.mem_of_getElem? (i := 179) (by decide +kernel)), rfl⟩
theorem tw_180 : Cond.methodLink RX4 196 yX2_codeAt ∈ tbg := List.mem_filter.mpr ⟨List.mem_append_right _ (List.mem_of_getElem? (i := 180) (by decide +kernel)), rfl⟩
theorem tw_181 : Cond.instanceMethod yX2_codeAt ∈ tbg := List.mem_filter.mpr ⟨List.mem_append_right _ (List.mem_of_getElem? (i := 181) (by decide +kernel)), rfl⟩
theorem tw_182 : Cond.selects RX2 yX2_codeAt yX2_codeAt ∈ tbg := List.mem_filter.mpr ⟨List.mem_append_right _ (List.mem_of_getElem? (i := 182) (by decide +kernel)), rfl⟩
theorem tw_183 : Cond.code yX2_codeAt prog_4_method_8_code 2 (some FieldType.int) ∈ tbg := List.mem_filter.mpr ⟨List.mem_append_right _ (List.mem_of_getElem? (i := 183) (by decide +kernel)), rfl⟩
theorem tw_184 : Cond.methodLink RX2 26 yX2_hasPlace ∈ tbg := List.mem_filter.mpr ⟨List.mem_append_right _ (List.mem_of_getElem? (i := 184) (by decide +kernel)), rfl⟩
theorem tw_185 : Cond.instanceMethod yX2_hasPlace ∈ tbg := List.mem_filter.mpr ⟨List.mem_append_right _ (List.mem_of_getElem? (i := 185) (by decide +kernel)), rfl⟩
theorem tw_186 : Cond.selects RX2 yX2_hasPlace yX2_hasPlace ∈ tbg := List.mem_filter.mpr ⟨List.mem_append_right _ (List.mem_of_getElem? (i := 186) (by decide +kernel)), rfl⟩
theorem tw_187 : Cond.code yX2_hasPlace prog_4_method_6_code 2 (some FieldType.boolean) ∈ tbg := List.mem_filter.mpr ⟨List.mem_append_right _ (List.mem_of_getElem? (i := 187) (by decide +kernel)), rfl⟩
theorem tw_188 : Cond.methodLink RX4 233 yX4_lengthOfText ∈ tbg := List.mem_filter.mpr ⟨List.mem_append_right _ (List.mem_of_getElem? (i := 188) (by decide +kernel)), rfl⟩
theorem tw_189 : Cond.static yX4_lengthOfText ∈ tbg := List.mem_filter.mpr ⟨List.mem_append_right _ (List.mem_of_getElem? (i := 189) (by decide +kernel)), rfl⟩
theorem tw_190 : Cond.code yX4_lengthOfText prog_1_method_43_code 2 (some FieldType.int) ∈ tbg := List.mem_filter.mpr ⟨List.mem_append_right _ (List.mem_of_getElem? (i := 190) (by decide +kernel)), rfl⟩
theorem tw_191 : Cond.methodLink RX4 240 yX4_digitAt ∈ tbg := List.mem_filter.mpr ⟨List.mem_append_right _ (List.mem_of_getElem? (i := 191) (by decide +kernel)), rfl⟩
theorem tw_192 : Cond.static yX4_digitAt ∈ tbg := List.mem_filter.mpr ⟨List.mem_append_right _ (List.mem_of_getElem? (i := 192) (by decide +kernel)), rfl⟩
theorem tw_193 : Cond.code yX4_digitAt prog_1_method_44_code 2 (some FieldType.int) ∈ tbg := List.mem_filter.mpr ⟨List.mem_append_right _ (List.mem_of_getElem? (i := 193) (by decide +kernel)), rfl⟩
theorem tw_194 : Cond.methodLink RX4 237 yX4_kindByLetter ∈ tbg := List.mem_filter.mpr ⟨List.mem_append_right _ (List.mem_of_getElem? (i := 194) (by decide +kernel)), rfl⟩
theorem tw_195 : Cond.static yX4_kindByLetter ∈ tbg := List.mem_filter.mpr ⟨List.mem_append_right _ (List.mem_of_getElem? (i := 195) (by decide +kernel)), rfl⟩
theorem tw_196 : Cond.code yX4_kindByLetter prog_1_method_45_code 1 (some FieldType.int) ∈ tbg := List.mem_filter.mpr ⟨List.mem_append_right _ (List.mem_of_getElem? (i := 196) (by decide +kernel)), rfl⟩
theorem tw_197 : Cond.methodLink RX4 71 yX0_becomeText ∈ tbg := List.mem_filter.mpr ⟨List.mem_append_right _ (List.mem_of_getElem? (i := 197) (by decide +kernel)), rfl⟩
theorem tw_198 : Cond.instanceMethod yX0_becomeText ∈ tbg := List.mem_filter.mpr ⟨List.mem_append_right _ (List.mem_of_getElem? (i := 198) (by decide +kernel)), rfl⟩
theorem tw_199 : Cond.selects RX0 yX0_becomeText yX0_becomeText ∈ tbg := List.mem_filter.mpr ⟨List.mem_append_right _ (List.mem_of_getElem? (i := 199) (by decide +kernel)), rfl⟩
theorem tw_200 : Cond.code yX0_becomeText prog_2_method_2_code 4 none ∈ tbg := List.mem_filter.mpr ⟨List.mem_append_right _ (List.mem_of_getElem? (i := 200) (by decide +kernel)), rfl⟩
theorem tw_201 : Cond.methodLinkNest RX0 40 yX4_digitAt "DriedMap" ∈ lw_tbl := List.mem_append_right _ (List.mem_of_getElem? (i := 201) (by decide +kernel))
theorem tw_202 : Cond.methodLink RX0 44 yX0_setShape ∈ tbg := List.mem_filter.mpr ⟨List.mem_append_right _ (List.mem_of_getElem? (i := 202) (by decide +kernel)), rfl⟩
theorem tw_204 : Cond.instanceMethod yX0_setShape ∈ tbg := List.mem_filter.mpr ⟨List.mem_append_right _ (List.mem_of_getElem? (i := 204) (by decide +kernel)), rfl⟩
theorem tw_205 : Cond.code yX0_setShape prog_2_method_3_code 4 none ∈ tbg := List.mem_filter.mpr ⟨List.mem_append_right _ (List.mem_of_getElem? (i := 205) (by decide +kernel)), rfl⟩
theorem tw_206 : Cond.methodLink RX0 57 yJ9_min_7cf53 ∈ tbg := List.mem_filter.mpr ⟨List.mem_append_right _ (List.mem_of_getElem? (i := 206) (by decide +kernel)), rfl⟩
theorem tw_207 : Cond.static yJ9_min_7cf53 ∈ tbg := List.mem_filter.mpr ⟨List.mem_append_right _ (List.mem_of_getElem? (i := 207) (by decide +kernel)), rfl⟩
theorem tw_208 : Cond.code yJ9_min_7cf53 prog_9_method_69_code 2 (some FieldType.int) ∈ tbg := List.mem_filter.mpr ⟨List.mem_append_right _ (List.mem_of_getElem? (i := 208) (by decide +kernel)), rfl⟩
theorem tw_209 : Cond.methodLink RX0 48 yX2_codeAt ∈ tbg := List.mem_filter.mpr ⟨List.mem_append_right _ (List.mem_of_getElem? (i := 209) (by decide +kernel)), rfl⟩
theorem tw_210 : Cond.methodLinkNest RX0 54 yX4_kindByLetter "DriedMap" ∈ lw_tbl := List.mem_append_right _ (List.mem_of_getElem? (i := 210) (by decide +kernel))
theorem tw_211 : Cond.methodLink RL 18 yX4_ofCell ∈ tbg := List.mem_filter.mpr ⟨List.mem_append_right _ (List.mem_of_getElem? (i := 211) (by decide +kernel)), rfl⟩
theorem tw_212 : Cond.instanceMethod yX4_ofCell ∈ tbg := List.mem_filter.mpr ⟨List.mem_append_right _ (List.mem_of_getElem? (i := 212) (by decide +kernel)), rfl⟩
theorem tw_213 : Cond.selects RX4 yX4_ofCell yX4_ofCell ∈ tbg := List.mem_filter.mpr ⟨List.mem_append_right _ (List.mem_of_getElem? (i := 213) (by decide +kernel)), rfl⟩
theorem tw_214 : Cond.code yX4_ofCell prog_1_method_3_code 3 (some FieldType.int) ∈ tbg := List.mem_filter.mpr ⟨List.mem_append_right _ (List.mem_of_getElem? (i := 214) (by decide +kernel)), rfl⟩
theorem tw_215 : Cond.methodLink RX4 81 yX0_isCell ∈ tbg := List.mem_filter.mpr ⟨List.mem_append_right _ (List.mem_of_getElem? (i := 215) (by decide +kernel)), rfl⟩
theorem tw_216 : Cond.instanceMethod yX0_isCell ∈ tbg := List.mem_filter.mpr ⟨List.mem_append_right _ (List.mem_of_getElem? (i := 216) (by decide +kernel)), rfl⟩
theorem tw_217 : Cond.selects RX0 yX0_isCell yX0_isCell ∈ tbg := List.mem_filter.mpr ⟨List.mem_append_right _ (List.mem_of_getElem? (i := 217) (by decide +kernel)), rfl⟩
theorem tw_218 : Cond.code yX0_isCell prog_2_method_6_code 2 (some FieldType.boolean) ∈ tbg := List.mem_filter.mpr ⟨List.mem_append_right _ (List.mem_of_getElem? (i := 218) (by decide +kernel)), rfl⟩
theorem tw_219 : Cond.methodLink RX4 91 yX0_losesOf ∈ tbg := List.mem_filter.mpr ⟨List.mem_append_right _ (List.mem_of_getElem? (i := 219) (by decide +kernel)), rfl⟩
theorem tw_220 : Cond.instanceMethod yX0_losesOf ∈ tbg := List.mem_filter.mpr ⟨List.mem_append_right _ (List.mem_of_getElem? (i := 220) (by decide +kernel)), rfl⟩
theorem tw_221 : Cond.selects RX0 yX0_losesOf yX0_losesOf ∈ tbg := List.mem_filter.mpr ⟨List.mem_append_right _ (List.mem_of_getElem? (i := 221) (by decide +kernel)), rfl⟩
theorem tw_222 : Cond.code yX0_losesOf prog_2_method_7_code 2 (some FieldType.int) ∈ tbg := List.mem_filter.mpr ⟨List.mem_append_right _ (List.mem_of_getElem? (i := 222) (by decide +kernel)), rfl⟩
theorem tw_223 : Cond.methodLink RX4 94 yX0_wetSet ∈ tbg := List.mem_filter.mpr ⟨List.mem_append_right _ (List.mem_of_getElem? (i := 223) (by decide +kernel)), rfl⟩
theorem tw_224 : Cond.instanceMethod yX0_wetSet ∈ tbg := List.mem_filter.mpr ⟨List.mem_append_right _ (List.mem_of_getElem? (i := 224) (by decide +kernel)), rfl⟩
theorem tw_225 : Cond.selects RX0 yX0_wetSet yX0_wetSet ∈ tbg := List.mem_filter.mpr ⟨List.mem_append_right _ (List.mem_of_getElem? (i := 225) (by decide +kernel)), rfl⟩
theorem tw_226 : Cond.code yX0_wetSet prog_2_method_14_code 1 (some FieldType.int) ∈ tbg := List.mem_filter.mpr ⟨List.mem_append_right _ (List.mem_of_getElem? (i := 226) (by decide +kernel)), rfl⟩
theorem tw_227 : Cond.methodLink RX0 77 yX0_crackedSet ∈ tbg := List.mem_filter.mpr ⟨List.mem_append_right _ (List.mem_of_getElem? (i := 227) (by decide +kernel)), rfl⟩
theorem tw_228 : Cond.instanceMethod yX0_crackedSet ∈ tbg := List.mem_filter.mpr ⟨List.mem_append_right _ (List.mem_of_getElem? (i := 228) (by decide +kernel)), rfl⟩
theorem tw_229 : Cond.selects RX0 yX0_crackedSet yX0_crackedSet ∈ tbg := List.mem_filter.mpr ⟨List.mem_append_right _ (List.mem_of_getElem? (i := 229) (by decide +kernel)), rfl⟩
theorem tw_230 : Cond.code yX0_crackedSet prog_2_method_13_code 3 (some FieldType.int) ∈ tbg := List.mem_filter.mpr ⟨List.mem_append_right _ (List.mem_of_getElem? (i := 230) (by decide +kernel)), rfl⟩
theorem tw_231 : Cond.methodLink RX4 98 yX0_hanging ∈ tbg := List.mem_filter.mpr ⟨List.mem_append_right _ (List.mem_of_getElem? (i := 231) (by decide +kernel)), rfl⟩
theorem tw_232 : Cond.instanceMethod yX0_hanging ∈ tbg := List.mem_filter.mpr ⟨List.mem_append_right _ (List.mem_of_getElem? (i := 232) (by decide +kernel)), rfl⟩
theorem tw_233 : Cond.selects RX0 yX0_hanging yX0_hanging ∈ tbg := List.mem_filter.mpr ⟨List.mem_append_right _ (List.mem_of_getElem? (i := 233) (by decide +kernel)), rfl⟩
theorem tw_234 : Cond.code yX0_hanging prog_2_method_16_code 6 (some FieldType.int) ∈ tbg := List.mem_filter.mpr ⟨List.mem_append_right _ (List.mem_of_getElem? (i := 234) (by decide +kernel)), rfl⟩
theorem tw_235 : Cond.methodLink RX0 81 yX0_beside ∈ tbg := List.mem_filter.mpr ⟨List.mem_append_right _ (List.mem_of_getElem? (i := 235) (by decide +kernel)), rfl⟩
theorem tw_237 : Cond.instanceMethod yX0_beside ∈ tbg := List.mem_filter.mpr ⟨List.mem_append_right _ (List.mem_of_getElem? (i := 237) (by decide +kernel)), rfl⟩
theorem tw_238 : Cond.code yX0_beside prog_2_method_15_code 4 (some FieldType.int) ∈ tbg := List.mem_filter.mpr ⟨List.mem_append_right _ (List.mem_of_getElem? (i := 238) (by decide +kernel)), rfl⟩
theorem tw_239 : Cond.methodLink RX4 102 yJ6_bitCount_0f7a4 ∈ tbg := List.mem_filter.mpr ⟨List.mem_append_right _ (List.mem_of_getElem? (i := 239) (by decide +kernel)), rfl⟩
theorem tw_240 : Cond.static yJ6_bitCount_0f7a4 ∈ tbg := List.mem_filter.mpr ⟨List.mem_append_right _ (List.mem_of_getElem? (i := 240) (by decide +kernel)), rfl⟩
theorem tw_241 : Cond.code yJ6_bitCount_0f7a4 prog_8_method_49_code 1 (some FieldType.int) ∈ tbg := List.mem_filter.mpr ⟨List.mem_append_right _ (List.mem_of_getElem? (i := 241) (by decide +kernel)), rfl⟩
theorem tw_242 : Cond.constant RJ6 265 (1431655765) ∈ tbg := List.mem_filter.mpr ⟨List.mem_append_right _ (List.mem_of_getElem? (i := 242) (by decide +kernel)), rfl⟩
theorem tw_243 : Cond.constant RJ6 266 (858993459) ∈ tbg := List.mem_filter.mpr ⟨List.mem_append_right _ (List.mem_of_getElem? (i := 243) (by decide +kernel)), rfl⟩
theorem tw_244 : Cond.constant RJ6 267 (252645135) ∈ tbg := List.mem_filter.mpr ⟨List.mem_append_right _ (List.mem_of_getElem? (i := 244) (by decide +kernel)), rfl⟩
theorem tw_245 : Cond.methodLink RL 23 yX4_shine ∈ tbg := List.mem_filter.mpr ⟨List.mem_append_right _ (List.mem_of_getElem? (i := 245) (by decide +kernel)), rfl⟩
theorem tw_246 : Cond.instanceMethod yX4_shine ∈ tbg := List.mem_filter.mpr ⟨List.mem_append_right _ (List.mem_of_getElem? (i := 246) (by decide +kernel)), rfl⟩
theorem tw_247 : Cond.selects RX4 yX4_shine yX4_shine ∈ tbg := List.mem_filter.mpr ⟨List.mem_append_right _ (List.mem_of_getElem? (i := 247) (by decide +kernel)), rfl⟩
theorem tw_248 : Cond.code yX4_shine prog_1_method_4_code 3 (some FieldType.int) ∈ tbg := List.mem_filter.mpr ⟨List.mem_append_right _ (List.mem_of_getElem? (i := 248) (by decide +kernel)), rfl⟩
theorem tw_249 : Cond.methodLink RX4 111 yX0_isThere ∈ tbg := List.mem_filter.mpr ⟨List.mem_append_right _ (List.mem_of_getElem? (i := 249) (by decide +kernel)), rfl⟩
theorem tw_250 : Cond.instanceMethod yX0_isThere ∈ tbg := List.mem_filter.mpr ⟨List.mem_append_right _ (List.mem_of_getElem? (i := 250) (by decide +kernel)), rfl⟩
theorem tw_251 : Cond.selects RX0 yX0_isThere yX0_isThere ∈ tbg := List.mem_filter.mpr ⟨List.mem_append_right _ (List.mem_of_getElem? (i := 251) (by decide +kernel)), rfl⟩
theorem tw_252 : Cond.code yX0_isThere prog_2_method_5_code 1 (some FieldType.boolean) ∈ tbg := List.mem_filter.mpr ⟨List.mem_append_right _ (List.mem_of_getElem? (i := 252) (by decide +kernel)), rfl⟩
theorem tw_253 : Cond.methodLink RL 28 yX4_silt ∈ tbg := List.mem_filter.mpr ⟨List.mem_append_right _ (List.mem_of_getElem? (i := 253) (by decide +kernel)), rfl⟩
theorem tw_254 : Cond.instanceMethod yX4_silt ∈ tbg := List.mem_filter.mpr ⟨List.mem_append_right _ (List.mem_of_getElem? (i := 254) (by decide +kernel)), rfl⟩
theorem tw_255 : Cond.selects RX4 yX4_silt yX4_silt ∈ tbg := List.mem_filter.mpr ⟨List.mem_append_right _ (List.mem_of_getElem? (i := 255) (by decide +kernel)), rfl⟩
theorem tw_256 : Cond.code yX4_silt prog_1_method_5_code 4 (some FieldType.int) ∈ tbg := List.mem_filter.mpr ⟨List.mem_append_right _ (List.mem_of_getElem? (i := 256) (by decide +kernel)), rfl⟩
theorem tw_257 : Cond.methodLink RL 32 yX4_dry ∈ tbg := List.mem_filter.mpr ⟨List.mem_append_right _ (List.mem_of_getElem? (i := 257) (by decide +kernel)), rfl⟩
theorem tw_258 : Cond.instanceMethod yX4_dry ∈ tbg := List.mem_filter.mpr ⟨List.mem_append_right _ (List.mem_of_getElem? (i := 258) (by decide +kernel)), rfl⟩
theorem tw_259 : Cond.selects RX4 yX4_dry yX4_dry ∈ tbg := List.mem_filter.mpr ⟨List.mem_append_right _ (List.mem_of_getElem? (i := 259) (by decide +kernel)), rfl⟩
theorem tw_260 : Cond.code yX4_dry prog_1_method_6_code 3 (some FieldType.int) ∈ tbg := List.mem_filter.mpr ⟨List.mem_append_right _ (List.mem_of_getElem? (i := 260) (by decide +kernel)), rfl⟩
theorem tw_261 : Cond.methodLink RX4 118 yX0_passHours ∈ tbg := List.mem_filter.mpr ⟨List.mem_append_right _ (List.mem_of_getElem? (i := 261) (by decide +kernel)), rfl⟩
theorem tw_262 : Cond.instanceMethod yX0_passHours ∈ tbg := List.mem_filter.mpr ⟨List.mem_append_right _ (List.mem_of_getElem? (i := 262) (by decide +kernel)), rfl⟩
theorem tw_263 : Cond.selects RX0 yX0_passHours yX0_passHours ∈ tbg := List.mem_filter.mpr ⟨List.mem_append_right _ (List.mem_of_getElem? (i := 263) (by decide +kernel)), rfl⟩
theorem tw_264 : Cond.code yX0_passHours prog_2_method_8_code 3 none ∈ tbg := List.mem_filter.mpr ⟨List.mem_append_right _ (List.mem_of_getElem? (i := 264) (by decide +kernel)), rfl⟩
theorem tw_265 : Cond.methodLink RX0 63 yX0_losesOf ∈ tbg := List.mem_filter.mpr ⟨List.mem_append_right _ (List.mem_of_getElem? (i := 265) (by decide +kernel)), rfl⟩
theorem tw_266 : Cond.methodLink RX0 66 yJ9_max_7cf53 ∈ tbg := List.mem_filter.mpr ⟨List.mem_append_right _ (List.mem_of_getElem? (i := 266) (by decide +kernel)), rfl⟩
theorem tw_267 : Cond.static yJ9_max_7cf53 ∈ tbg := List.mem_filter.mpr ⟨List.mem_append_right _ (List.mem_of_getElem? (i := 267) (by decide +kernel)), rfl⟩
theorem tw_268 : Cond.code yJ9_max_7cf53 prog_9_method_65_code 2 (some FieldType.int) ∈ tbg := List.mem_filter.mpr ⟨List.mem_append_right _ (List.mem_of_getElem? (i := 268) (by decide +kernel)), rfl⟩
theorem tw_269 : Cond.methodLink RX4 122 yX0_crackedSet ∈ tbg := List.mem_filter.mpr ⟨List.mem_append_right _ (List.mem_of_getElem? (i := 269) (by decide +kernel)), rfl⟩
theorem tw_270 : Cond.methodLink RL 36 yX4_pour ∈ tbg := List.mem_filter.mpr ⟨List.mem_append_right _ (List.mem_of_getElem? (i := 270) (by decide +kernel)), rfl⟩
theorem tw_271 : Cond.instanceMethod yX4_pour ∈ tbg := List.mem_filter.mpr ⟨List.mem_append_right _ (List.mem_of_getElem? (i := 271) (by decide +kernel)), rfl⟩
theorem tw_272 : Cond.selects RX4 yX4_pour yX4_pour ∈ tbg := List.mem_filter.mpr ⟨List.mem_append_right _ (List.mem_of_getElem? (i := 272) (by decide +kernel)), rfl⟩
theorem tw_273 : Cond.code yX4_pour prog_1_method_7_code 3 (some FieldType.int) ∈ tbg := List.mem_filter.mpr ⟨List.mem_append_right _ (List.mem_of_getElem? (i := 273) (by decide +kernel)), rfl⟩
theorem tw_274 : Cond.methodLink RX4 125 yX0_pourOn ∈ tbg := List.mem_filter.mpr ⟨List.mem_append_right _ (List.mem_of_getElem? (i := 274) (by decide +kernel)), rfl⟩
theorem tw_275 : Cond.instanceMethod yX0_pourOn ∈ tbg := List.mem_filter.mpr ⟨List.mem_append_right _ (List.mem_of_getElem? (i := 275) (by decide +kernel)), rfl⟩
theorem tw_276 : Cond.selects RX0 yX0_pourOn yX0_pourOn ∈ tbg := List.mem_filter.mpr ⟨List.mem_append_right _ (List.mem_of_getElem? (i := 276) (by decide +kernel)), rfl⟩
theorem tw_277 : Cond.code yX0_pourOn prog_2_method_9_code 3 (some FieldType.boolean) ∈ tbg := List.mem_filter.mpr ⟨List.mem_append_right _ (List.mem_of_getElem? (i := 277) (by decide +kernel)), rfl⟩
theorem tw_278 : Cond.methodLink RX0 69 yX0_isCell ∈ tbg := List.mem_filter.mpr ⟨List.mem_append_right _ (List.mem_of_getElem? (i := 278) (by decide +kernel)), rfl⟩
theorem tw_279 : Cond.methodLink RL 40 yX4_cracks ∈ tbg := List.mem_filter.mpr ⟨List.mem_append_right _ (List.mem_of_getElem? (i := 279) (by decide +kernel)), rfl⟩
theorem tw_280 : Cond.instanceMethod yX4_cracks ∈ tbg := List.mem_filter.mpr ⟨List.mem_append_right _ (List.mem_of_getElem? (i := 280) (by decide +kernel)), rfl⟩
theorem tw_281 : Cond.selects RX4 yX4_cracks yX4_cracks ∈ tbg := List.mem_filter.mpr ⟨List.mem_append_right _ (List.mem_of_getElem? (i := 281) (by decide +kernel)), rfl⟩
theorem tw_282 : Cond.code yX4_cracks prog_1_method_8_code 2 (some FieldType.int) ∈ tbg := List.mem_filter.mpr ⟨List.mem_append_right _ (List.mem_of_getElem? (i := 282) (by decide +kernel)), rfl⟩
theorem tw_283 : Cond.methodLink RX4 128 yX0_isOpenBy ∈ tbg := List.mem_filter.mpr ⟨List.mem_append_right _ (List.mem_of_getElem? (i := 283) (by decide +kernel)), rfl⟩
theorem tw_284 : Cond.instanceMethod yX0_isOpenBy ∈ tbg := List.mem_filter.mpr ⟨List.mem_append_right _ (List.mem_of_getElem? (i := 284) (by decide +kernel)), rfl⟩
theorem tw_285 : Cond.selects RX0 yX0_isOpenBy yX0_isOpenBy ∈ tbg := List.mem_filter.mpr ⟨List.mem_append_right _ (List.mem_of_getElem? (i := 285) (by decide +kernel)), rfl⟩
theorem tw_286 : Cond.code yX0_isOpenBy prog_2_method_17_code 4 (some FieldType.boolean) ∈ tbg := List.mem_filter.mpr ⟨List.mem_append_right _ (List.mem_of_getElem? (i := 286) (by decide +kernel)), rfl⟩
theorem tw_287 : Cond.methodLink RX0 84 yX0_hanging ∈ tbg := List.mem_filter.mpr ⟨List.mem_append_right _ (List.mem_of_getElem? (i := 287) (by decide +kernel)), rfl⟩
theorem tw_288 : Cond.methodLink RX4 131 yX0_howManyPieces ∈ tbg := List.mem_filter.mpr ⟨List.mem_append_right _ (List.mem_of_getElem? (i := 288) (by decide +kernel)), rfl⟩
theorem tw_289 : Cond.instanceMethod yX0_howManyPieces ∈ tbg := List.mem_filter.mpr ⟨List.mem_append_right _ (List.mem_of_getElem? (i := 289) (by decide +kernel)), rfl⟩
theorem tw_290 : Cond.selects RX0 yX0_howManyPieces yX0_howManyPieces ∈ tbg := List.mem_filter.mpr ⟨List.mem_append_right _ (List.mem_of_getElem? (i := 290) (by decide +kernel)), rfl⟩
theorem tw_291 : Cond.code yX0_howManyPieces prog_2_method_19_code 4 (some FieldType.int) ∈ tbg := List.mem_filter.mpr ⟨List.mem_append_right _ (List.mem_of_getElem? (i := 291) (by decide +kernel)), rfl⟩
theorem tw_292 : Cond.methodLink RX0 87 yX0_wetSet ∈ tbg := List.mem_filter.mpr ⟨List.mem_append_right _ (List.mem_of_getElem? (i := 292) (by decide +kernel)), rfl⟩
theorem tw_293 : Cond.methodLink RX0 90 yJ6_lowestOneBit_0f7a4 ∈ tbg := List.mem_filter.mpr ⟨List.mem_append_right _ (List.mem_of_getElem? (i := 293) (by decide +kernel)), rfl⟩
theorem tw_294 : Cond.static yJ6_lowestOneBit_0f7a4 ∈ tbg := List.mem_filter.mpr ⟨List.mem_append_right _ (List.mem_of_getElem? (i := 294) (by decide +kernel)), rfl⟩
theorem tw_295 : Cond.code yJ6_lowestOneBit_0f7a4 prog_8_method_46_code 1 (some FieldType.int) ∈ tbg := List.mem_filter.mpr ⟨List.mem_append_right _ (List.mem_of_getElem? (i := 295) (by decide +kernel)), rfl⟩
theorem tw_296 : Cond.methodLink RX4 134 yX0_greatestPiece ∈ tbg := List.mem_filter.mpr ⟨List.mem_append_right _ (List.mem_of_getElem? (i := 296) (by decide +kernel)), rfl⟩
theorem tw_297 : Cond.instanceMethod yX0_greatestPiece ∈ tbg := List.mem_filter.mpr ⟨List.mem_append_right _ (List.mem_of_getElem? (i := 297) (by decide +kernel)), rfl⟩
theorem tw_298 : Cond.selects RX0 yX0_greatestPiece yX0_greatestPiece ∈ tbg := List.mem_filter.mpr ⟨List.mem_append_right _ (List.mem_of_getElem? (i := 298) (by decide +kernel)), rfl⟩
theorem tw_299 : Cond.code yX0_greatestPiece prog_2_method_20_code 5 (some FieldType.int) ∈ tbg := List.mem_filter.mpr ⟨List.mem_append_right _ (List.mem_of_getElem? (i := 299) (by decide +kernel)), rfl⟩
theorem tw_300 : Cond.methodLink RX0 95 yJ6_bitCount_0f7a4 ∈ tbg := List.mem_filter.mpr ⟨List.mem_append_right _ (List.mem_of_getElem? (i := 300) (by decide +kernel)), rfl⟩
theorem tw_301 : Cond.methodLink RL 44 yX4_way ∈ tbg := List.mem_filter.mpr ⟨List.mem_append_right _ (List.mem_of_getElem? (i := 301) (by decide +kernel)), rfl⟩
theorem tw_302 : Cond.instanceMethod yX4_way ∈ tbg := List.mem_filter.mpr ⟨List.mem_append_right _ (List.mem_of_getElem? (i := 302) (by decide +kernel)), rfl⟩
theorem tw_303 : Cond.selects RX4 yX4_way yX4_way ∈ tbg := List.mem_filter.mpr ⟨List.mem_append_right _ (List.mem_of_getElem? (i := 303) (by decide +kernel)), rfl⟩
theorem tw_304 : Cond.code yX4_way prog_1_method_9_code 3 (some FieldType.int) ∈ tbg := List.mem_filter.mpr ⟨List.mem_append_right _ (List.mem_of_getElem? (i := 304) (by decide +kernel)), rfl⟩
theorem tw_305 : Cond.methodLink RX4 137 yX0_fewestSteps ∈ tbg := List.mem_filter.mpr ⟨List.mem_append_right _ (List.mem_of_getElem? (i := 305) (by decide +kernel)), rfl⟩
theorem tw_306 : Cond.instanceMethod yX0_fewestSteps ∈ tbg := List.mem_filter.mpr ⟨List.mem_append_right _ (List.mem_of_getElem? (i := 306) (by decide +kernel)), rfl⟩
theorem tw_307 : Cond.selects RX0 yX0_fewestSteps yX0_fewestSteps ∈ tbg := List.mem_filter.mpr ⟨List.mem_append_right _ (List.mem_of_getElem? (i := 307) (by decide +kernel)), rfl⟩
theorem tw_308 : Cond.code yX0_fewestSteps prog_2_method_18_code 6 (some FieldType.int) ∈ tbg := List.mem_filter.mpr ⟨List.mem_append_right _ (List.mem_of_getElem? (i := 308) (by decide +kernel)), rfl⟩
theorem tw_309 : Cond.methodLink RL 48 yX4_plan ∈ tbg := List.mem_filter.mpr ⟨List.mem_append_right _ (List.mem_of_getElem? (i := 309) (by decide +kernel)), rfl⟩
theorem tw_310 : Cond.instanceMethod yX4_plan ∈ tbg := List.mem_filter.mpr ⟨List.mem_append_right _ (List.mem_of_getElem? (i := 310) (by decide +kernel)), rfl⟩
theorem tw_311 : Cond.selects RX4 yX4_plan yX4_plan ∈ tbg := List.mem_filter.mpr ⟨List.mem_append_right _ (List.mem_of_getElem? (i := 311) (by decide +kernel)), rfl⟩
theorem tw_312 : Cond.code yX4_plan prog_1_method_10_code 10 (some FieldType.int) ∈ tbg := List.mem_filter.mpr ⟨List.mem_append_right _ (List.mem_of_getElem? (i := 312) (by decide +kernel)), rfl⟩
theorem tw_313 : Cond.methodLink RX4 140 yX4_refusalOfPairs ∈ tbg := List.mem_filter.mpr ⟨List.mem_append_right _ (List.mem_of_getElem? (i := 313) (by decide +kernel)), rfl⟩
theorem tw_315 : Cond.instanceMethod yX4_refusalOfPairs ∈ tbg := List.mem_filter.mpr ⟨List.mem_append_right _ (List.mem_of_getElem? (i := 315) (by decide +kernel)), rfl⟩
theorem tw_316 : Cond.code yX4_refusalOfPairs prog_1_method_40_code 7 (some FieldType.int) ∈ tbg := List.mem_filter.mpr ⟨List.mem_append_right _ (List.mem_of_getElem? (i := 316) (by decide +kernel)), rfl⟩
theorem tw_317 : Cond.methodLink RX4 143 yX3_follow ∈ tbg := List.mem_filter.mpr ⟨List.mem_append_right _ (List.mem_of_getElem? (i := 317) (by decide +kernel)), rfl⟩
theorem tw_318 : Cond.instanceMethod yX3_follow ∈ tbg := List.mem_filter.mpr ⟨List.mem_append_right _ (List.mem_of_getElem? (i := 318) (by decide +kernel)), rfl⟩
theorem tw_319 : Cond.selects RX3 yX3_follow yX3_follow ∈ tbg := List.mem_filter.mpr ⟨List.mem_append_right _ (List.mem_of_getElem? (i := 319) (by decide +kernel)), rfl⟩
theorem tw_320 : Cond.code yX3_follow prog_5_method_2_code 6 none ∈ tbg := List.mem_filter.mpr ⟨List.mem_append_right _ (List.mem_of_getElem? (i := 320) (by decide +kernel)), rfl⟩
theorem tw_321 : Cond.methodLink RX3 28 yX0_becomeLike ∈ tbg := List.mem_filter.mpr ⟨List.mem_append_right _ (List.mem_of_getElem? (i := 321) (by decide +kernel)), rfl⟩
theorem tw_322 : Cond.instanceMethod yX0_becomeLike ∈ tbg := List.mem_filter.mpr ⟨List.mem_append_right _ (List.mem_of_getElem? (i := 322) (by decide +kernel)), rfl⟩
theorem tw_323 : Cond.selects RX0 yX0_becomeLike yX0_becomeLike ∈ tbg := List.mem_filter.mpr ⟨List.mem_append_right _ (List.mem_of_getElem? (i := 323) (by decide +kernel)), rfl⟩
theorem tw_324 : Cond.code yX0_becomeLike prog_2_method_4_code 3 none ∈ tbg := List.mem_filter.mpr ⟨List.mem_append_right _ (List.mem_of_getElem? (i := 324) (by decide +kernel)), rfl⟩
theorem tw_325 : Cond.methodLink RX3 32 yX0_crackedSet ∈ tbg := List.mem_filter.mpr ⟨List.mem_append_right _ (List.mem_of_getElem? (i := 325) (by decide +kernel)), rfl⟩
theorem tw_326 : Cond.methodLink RX3 36 yX0_isOpenBy ∈ tbg := List.mem_filter.mpr ⟨List.mem_append_right _ (List.mem_of_getElem? (i := 326) (by decide +kernel)), rfl⟩
theorem tw_327 : Cond.methodLink RX3 40 yX2_codeAt ∈ tbg := List.mem_filter.mpr ⟨List.mem_append_right _ (List.mem_of_getElem? (i := 327) (by decide +kernel)), rfl⟩
theorem tw_328 : Cond.methodLink RX3 46 yX3_canDo ∈ tbg := List.mem_filter.mpr ⟨List.mem_append_right _ (List.mem_of_getElem? (i := 328) (by decide +kernel)), rfl⟩
theorem tw_330 : Cond.instanceMethod yX3_canDo ∈ tbg := List.mem_filter.mpr ⟨List.mem_append_right _ (List.mem_of_getElem? (i := 330) (by decide +kernel)), rfl⟩
theorem tw_331 : Cond.code yX3_canDo prog_5_method_3_code 3 (some FieldType.boolean) ∈ tbg := List.mem_filter.mpr ⟨List.mem_append_right _ (List.mem_of_getElem? (i := 331) (by decide +kernel)), rfl⟩
theorem tw_332 : Cond.methodLink RX3 50 yX0_pourOn ∈ tbg := List.mem_filter.mpr ⟨List.mem_append_right _ (List.mem_of_getElem? (i := 332) (by decide +kernel)), rfl⟩
theorem tw_333 : Cond.methodLink RX3 56 yX3_goHours ∈ tbg := List.mem_filter.mpr ⟨List.mem_append_right _ (List.mem_of_getElem? (i := 333) (by decide +kernel)), rfl⟩
theorem tw_335 : Cond.instanceMethod yX3_goHours ∈ tbg := List.mem_filter.mpr ⟨List.mem_append_right _ (List.mem_of_getElem? (i := 335) (by decide +kernel)), rfl⟩
theorem tw_336 : Cond.code yX3_goHours prog_5_method_4_code 3 none ∈ tbg := List.mem_filter.mpr ⟨List.mem_append_right _ (List.mem_of_getElem? (i := 336) (by decide +kernel)), rfl⟩
theorem tw_337 : Cond.methodLink RX3 60 yX0_passHours ∈ tbg := List.mem_filter.mpr ⟨List.mem_append_right _ (List.mem_of_getElem? (i := 337) (by decide +kernel)), rfl⟩
theorem tw_338 : Cond.methodLink RX4 147 yX3_answerTo ∈ tbg := List.mem_filter.mpr ⟨List.mem_append_right _ (List.mem_of_getElem? (i := 338) (by decide +kernel)), rfl⟩
theorem tw_339 : Cond.instanceMethod yX3_answerTo ∈ tbg := List.mem_filter.mpr ⟨List.mem_append_right _ (List.mem_of_getElem? (i := 339) (by decide +kernel)), rfl⟩
theorem tw_340 : Cond.selects RX3 yX3_answerTo yX3_answerTo ∈ tbg := List.mem_filter.mpr ⟨List.mem_append_right _ (List.mem_of_getElem? (i := 340) (by decide +kernel)), rfl⟩
theorem tw_341 : Cond.code yX3_answerTo prog_5_method_5_code 2 (some FieldType.int) ∈ tbg := List.mem_filter.mpr ⟨List.mem_append_right _ (List.mem_of_getElem? (i := 341) (by decide +kernel)), rfl⟩
theorem tw_342 : Cond.methodLink RX3 63 yX0_wetOfAll ∈ tbg := List.mem_filter.mpr ⟨List.mem_append_right _ (List.mem_of_getElem? (i := 342) (by decide +kernel)), rfl⟩
theorem tw_343 : Cond.instanceMethod yX0_wetOfAll ∈ tbg := List.mem_filter.mpr ⟨List.mem_append_right _ (List.mem_of_getElem? (i := 343) (by decide +kernel)), rfl⟩
theorem tw_344 : Cond.selects RX0 yX0_wetOfAll yX0_wetOfAll ∈ tbg := List.mem_filter.mpr ⟨List.mem_append_right _ (List.mem_of_getElem? (i := 344) (by decide +kernel)), rfl⟩
theorem tw_345 : Cond.code yX0_wetOfAll prog_2_method_10_code 3 (some FieldType.int) ∈ tbg := List.mem_filter.mpr ⟨List.mem_append_right _ (List.mem_of_getElem? (i := 345) (by decide +kernel)), rfl⟩
theorem tw_346 : Cond.methodLink RX3 66 yX0_isCell ∈ tbg := List.mem_filter.mpr ⟨List.mem_append_right _ (List.mem_of_getElem? (i := 346) (by decide +kernel)), rfl⟩
theorem tw_347 : Cond.methodLink RL 53 yX4_when ∈ tbg := List.mem_filter.mpr ⟨List.mem_append_right _ (List.mem_of_getElem? (i := 347) (by decide +kernel)), rfl⟩
theorem tw_348 : Cond.instanceMethod yX4_when ∈ tbg := List.mem_filter.mpr ⟨List.mem_append_right _ (List.mem_of_getElem? (i := 348) (by decide +kernel)), rfl⟩
theorem tw_349 : Cond.selects RX4 yX4_when yX4_when ∈ tbg := List.mem_filter.mpr ⟨List.mem_append_right _ (List.mem_of_getElem? (i := 349) (by decide +kernel)), rfl⟩
theorem tw_350 : Cond.code yX4_when prog_1_method_11_code 3 (some FieldType.int) ∈ tbg := List.mem_filter.mpr ⟨List.mem_append_right _ (List.mem_of_getElem? (i := 350) (by decide +kernel)), rfl⟩
theorem tw_351 : Cond.methodLink RX4 150 yX0_isCrackedBehind ∈ tbg := List.mem_filter.mpr ⟨List.mem_append_right _ (List.mem_of_getElem? (i := 351) (by decide +kernel)), rfl⟩
theorem tw_352 : Cond.instanceMethod yX0_isCrackedBehind ∈ tbg := List.mem_filter.mpr ⟨List.mem_append_right _ (List.mem_of_getElem? (i := 352) (by decide +kernel)), rfl⟩
theorem tw_353 : Cond.selects RX0 yX0_isCrackedBehind yX0_isCrackedBehind ∈ tbg := List.mem_filter.mpr ⟨List.mem_append_right _ (List.mem_of_getElem? (i := 353) (by decide +kernel)), rfl⟩
theorem tw_354 : Cond.code yX0_isCrackedBehind prog_2_method_11_code 3 (some FieldType.boolean) ∈ tbg := List.mem_filter.mpr ⟨List.mem_append_right _ (List.mem_of_getElem? (i := 354) (by decide +kernel)), rfl⟩
theorem tw_355 : Cond.methodLink RL 57 yX4_opens ∈ tbg := List.mem_filter.mpr ⟨List.mem_append_right _ (List.mem_of_getElem? (i := 355) (by decide +kernel)), rfl⟩
theorem tw_356 : Cond.instanceMethod yX4_opens ∈ tbg := List.mem_filter.mpr ⟨List.mem_append_right _ (List.mem_of_getElem? (i := 356) (by decide +kernel)), rfl⟩
theorem tw_357 : Cond.selects RX4 yX4_opens yX4_opens ∈ tbg := List.mem_filter.mpr ⟨List.mem_append_right _ (List.mem_of_getElem? (i := 357) (by decide +kernel)), rfl⟩
theorem tw_358 : Cond.code yX4_opens prog_1_method_12_code 2 (some FieldType.int) ∈ tbg := List.mem_filter.mpr ⟨List.mem_append_right _ (List.mem_of_getElem? (i := 358) (by decide +kernel)), rfl⟩
theorem tw_359 : Cond.methodLink RX4 153 yX0_crackedSetBehind ∈ tbg := List.mem_filter.mpr ⟨List.mem_append_right _ (List.mem_of_getElem? (i := 359) (by decide +kernel)), rfl⟩
theorem tw_360 : Cond.instanceMethod yX0_crackedSetBehind ∈ tbg := List.mem_filter.mpr ⟨List.mem_append_right _ (List.mem_of_getElem? (i := 360) (by decide +kernel)), rfl⟩
theorem tw_361 : Cond.selects RX0 yX0_crackedSetBehind yX0_crackedSetBehind ∈ tbg := List.mem_filter.mpr ⟨List.mem_append_right _ (List.mem_of_getElem? (i := 361) (by decide +kernel)), rfl⟩
theorem tw_362 : Cond.code yX0_crackedSetBehind prog_2_method_12_code 4 (some FieldType.int) ∈ tbg := List.mem_filter.mpr ⟨List.mem_append_right _ (List.mem_of_getElem? (i := 362) (by decide +kernel)), rfl⟩
theorem tw_363 : Cond.methodLink RX0 73 yX0_isCrackedBehind ∈ tbg := List.mem_filter.mpr ⟨List.mem_append_right _ (List.mem_of_getElem? (i := 363) (by decide +kernel)), rfl⟩
theorem tw_364 : Cond.methodLink RL 62 yX4_bars ∈ tbg := List.mem_filter.mpr ⟨List.mem_append_right _ (List.mem_of_getElem? (i := 364) (by decide +kernel)), rfl⟩
theorem tw_365 : Cond.instanceMethod yX4_bars ∈ tbg := List.mem_filter.mpr ⟨List.mem_append_right _ (List.mem_of_getElem? (i := 365) (by decide +kernel)), rfl⟩
theorem tw_366 : Cond.selects RX4 yX4_bars yX4_bars ∈ tbg := List.mem_filter.mpr ⟨List.mem_append_right _ (List.mem_of_getElem? (i := 366) (by decide +kernel)), rfl⟩
theorem tw_367 : Cond.code yX4_bars prog_1_method_13_code 2 (some FieldType.int) ∈ tbg := List.mem_filter.mpr ⟨List.mem_append_right _ (List.mem_of_getElem? (i := 367) (by decide +kernel)), rfl⟩
theorem tw_368 : Cond.methodLink RX4 156 yX0_fewestBars ∈ tbg := List.mem_filter.mpr ⟨List.mem_append_right _ (List.mem_of_getElem? (i := 368) (by decide +kernel)), rfl⟩
theorem tw_369 : Cond.instanceMethod yX0_fewestBars ∈ tbg := List.mem_filter.mpr ⟨List.mem_append_right _ (List.mem_of_getElem? (i := 369) (by decide +kernel)), rfl⟩
theorem tw_370 : Cond.selects RX0 yX0_fewestBars yX0_fewestBars ∈ tbg := List.mem_filter.mpr ⟨List.mem_append_right _ (List.mem_of_getElem? (i := 370) (by decide +kernel)), rfl⟩
theorem tw_371 : Cond.code yX0_fewestBars prog_2_method_21_code 6 (some FieldType.int) ∈ tbg := List.mem_filter.mpr ⟨List.mem_append_right _ (List.mem_of_getElem? (i := 371) (by decide +kernel)), rfl⟩
theorem tw_372 : Cond.methodLink RX0 98 yX0_isOpenBy ∈ tbg := List.mem_filter.mpr ⟨List.mem_append_right _ (List.mem_of_getElem? (i := 372) (by decide +kernel)), rfl⟩
theorem tw_373 : Cond.methodLink RL 66 yX4_dates ∈ tbg := List.mem_filter.mpr ⟨List.mem_append_right _ (List.mem_of_getElem? (i := 373) (by decide +kernel)), rfl⟩
theorem tw_374 : Cond.instanceMethod yX4_dates ∈ tbg := List.mem_filter.mpr ⟨List.mem_append_right _ (List.mem_of_getElem? (i := 374) (by decide +kernel)), rfl⟩
theorem tw_375 : Cond.selects RX4 yX4_dates yX4_dates ∈ tbg := List.mem_filter.mpr ⟨List.mem_append_right _ (List.mem_of_getElem? (i := 375) (by decide +kernel)), rfl⟩
theorem tw_376 : Cond.code yX4_dates prog_1_method_14_code 4 (some FieldType.int) ∈ tbg := List.mem_filter.mpr ⟨List.mem_append_right _ (List.mem_of_getElem? (i := 376) (by decide +kernel)), rfl⟩
theorem tw_377 : Cond.methodLink RL 70 yX4_reading ∈ tbg := List.mem_filter.mpr ⟨List.mem_append_right _ (List.mem_of_getElem? (i := 377) (by decide +kernel)), rfl⟩
theorem tw_378 : Cond.instanceMethod yX4_reading ∈ tbg := List.mem_filter.mpr ⟨List.mem_append_right _ (List.mem_of_getElem? (i := 378) (by decide +kernel)), rfl⟩
theorem tw_379 : Cond.selects RX4 yX4_reading yX4_reading ∈ tbg := List.mem_filter.mpr ⟨List.mem_append_right _ (List.mem_of_getElem? (i := 379) (by decide +kernel)), rfl⟩
theorem tw_380 : Cond.code yX4_reading prog_1_method_15_code 4 (some FieldType.int) ∈ tbg := List.mem_filter.mpr ⟨List.mem_append_right _ (List.mem_of_getElem? (i := 380) (by decide +kernel)), rfl⟩
theorem tw_381 : Cond.methodLink RX4 162 yX1_addOne ∈ tbg := List.mem_filter.mpr ⟨List.mem_append_right _ (List.mem_of_getElem? (i := 381) (by decide +kernel)), rfl⟩
theorem tw_382 : Cond.instanceMethod yX1_addOne ∈ tbg := List.mem_filter.mpr ⟨List.mem_append_right _ (List.mem_of_getElem? (i := 382) (by decide +kernel)), rfl⟩
theorem tw_383 : Cond.selects RX1 yX1_addOne yX1_addOne ∈ tbg := List.mem_filter.mpr ⟨List.mem_append_right _ (List.mem_of_getElem? (i := 383) (by decide +kernel)), rfl⟩
theorem tw_384 : Cond.code yX1_addOne prog_3_method_2_code 4 (some FieldType.int) ∈ tbg := List.mem_filter.mpr ⟨List.mem_append_right _ (List.mem_of_getElem? (i := 384) (by decide +kernel)), rfl⟩
theorem tw_385 : Cond.methodLink RL 75 yX4_back ∈ tbg := List.mem_filter.mpr ⟨List.mem_append_right _ (List.mem_of_getElem? (i := 385) (by decide +kernel)), rfl⟩
theorem tw_386 : Cond.instanceMethod yX4_back ∈ tbg := List.mem_filter.mpr ⟨List.mem_append_right _ (List.mem_of_getElem? (i := 386) (by decide +kernel)), rfl⟩
theorem tw_387 : Cond.selects RX4 yX4_back yX4_back ∈ tbg := List.mem_filter.mpr ⟨List.mem_append_right _ (List.mem_of_getElem? (i := 387) (by decide +kernel)), rfl⟩
theorem tw_388 : Cond.code yX4_back prog_1_method_16_code 2 (some FieldType.int) ∈ tbg := List.mem_filter.mpr ⟨List.mem_append_right _ (List.mem_of_getElem? (i := 388) (by decide +kernel)), rfl⟩
theorem tw_389 : Cond.methodLink RL 79 yX4_wets ∈ tbg := List.mem_filter.mpr ⟨List.mem_append_right _ (List.mem_of_getElem? (i := 389) (by decide +kernel)), rfl⟩
theorem tw_390 : Cond.instanceMethod yX4_wets ∈ tbg := List.mem_filter.mpr ⟨List.mem_append_right _ (List.mem_of_getElem? (i := 390) (by decide +kernel)), rfl⟩
theorem tw_391 : Cond.selects RX4 yX4_wets yX4_wets ∈ tbg := List.mem_filter.mpr ⟨List.mem_append_right _ (List.mem_of_getElem? (i := 391) (by decide +kernel)), rfl⟩
theorem tw_392 : Cond.code yX4_wets prog_1_method_17_code 5 (some FieldType.int) ∈ tbg := List.mem_filter.mpr ⟨List.mem_append_right _ (List.mem_of_getElem? (i := 392) (by decide +kernel)), rfl⟩
theorem tw_393 : Cond.methodLink RX4 167 yX0_becomeLike ∈ tbg := List.mem_filter.mpr ⟨List.mem_append_right _ (List.mem_of_getElem? (i := 393) (by decide +kernel)), rfl⟩
theorem tw_394 : Cond.methodLink RX4 171 yX1_areSoIn ∈ tbg := List.mem_filter.mpr ⟨List.mem_append_right _ (List.mem_of_getElem? (i := 394) (by decide +kernel)), rfl⟩
theorem tw_395 : Cond.instanceMethod yX1_areSoIn ∈ tbg := List.mem_filter.mpr ⟨List.mem_append_right _ (List.mem_of_getElem? (i := 395) (by decide +kernel)), rfl⟩
theorem tw_396 : Cond.selects RX1 yX1_areSoIn yX1_areSoIn ∈ tbg := List.mem_filter.mpr ⟨List.mem_append_right _ (List.mem_of_getElem? (i := 396) (by decide +kernel)), rfl⟩
theorem tw_397 : Cond.code yX1_areSoIn prog_3_method_3_code 4 (some FieldType.boolean) ∈ tbg := List.mem_filter.mpr ⟨List.mem_append_right _ (List.mem_of_getElem? (i := 397) (by decide +kernel)), rfl⟩
theorem tw_398 : Cond.methodLink RX1 25 yX0_isCrackedBehind ∈ tbg := List.mem_filter.mpr ⟨List.mem_append_right _ (List.mem_of_getElem? (i := 398) (by decide +kernel)), rfl⟩
theorem tw_399 : Cond.methodLink RL 83 yX4_kinds ∈ tbg := List.mem_filter.mpr ⟨List.mem_append_right _ (List.mem_of_getElem? (i := 399) (by decide +kernel)), rfl⟩
theorem tw_400 : Cond.instanceMethod yX4_kinds ∈ tbg := List.mem_filter.mpr ⟨List.mem_append_right _ (List.mem_of_getElem? (i := 400) (by decide +kernel)), rfl⟩
theorem tw_401 : Cond.selects RX4 yX4_kinds yX4_kinds ∈ tbg := List.mem_filter.mpr ⟨List.mem_append_right _ (List.mem_of_getElem? (i := 401) (by decide +kernel)), rfl⟩
theorem tw_402 : Cond.code yX4_kinds prog_1_method_18_code 5 (some FieldType.int) ∈ tbg := List.mem_filter.mpr ⟨List.mem_append_right _ (List.mem_of_getElem? (i := 402) (by decide +kernel)), rfl⟩
theorem tw_403 : Cond.methodLink RL 87 yX4_suns ∈ tbg := List.mem_filter.mpr ⟨List.mem_append_right _ (List.mem_of_getElem? (i := 403) (by decide +kernel)), rfl⟩
theorem tw_404 : Cond.instanceMethod yX4_suns ∈ tbg := List.mem_filter.mpr ⟨List.mem_append_right _ (List.mem_of_getElem? (i := 404) (by decide +kernel)), rfl⟩
theorem tw_405 : Cond.selects RX4 yX4_suns yX4_suns ∈ tbg := List.mem_filter.mpr ⟨List.mem_append_right _ (List.mem_of_getElem? (i := 405) (by decide +kernel)), rfl⟩
theorem tw_406 : Cond.code yX4_suns prog_1_method_19_code 4 (some FieldType.int) ∈ tbg := List.mem_filter.mpr ⟨List.mem_append_right _ (List.mem_of_getElem? (i := 406) (by decide +kernel)), rfl⟩
theorem tw_407 : Cond.methodLink RL 91 yX4_odds ∈ tbg := List.mem_filter.mpr ⟨List.mem_append_right _ (List.mem_of_getElem? (i := 407) (by decide +kernel)), rfl⟩
theorem tw_408 : Cond.instanceMethod yX4_odds ∈ tbg := List.mem_filter.mpr ⟨List.mem_append_right _ (List.mem_of_getElem? (i := 408) (by decide +kernel)), rfl⟩
theorem tw_409 : Cond.selects RX4 yX4_odds yX4_odds ∈ tbg := List.mem_filter.mpr ⟨List.mem_append_right _ (List.mem_of_getElem? (i := 409) (by decide +kernel)), rfl⟩
theorem tw_410 : Cond.code yX4_odds prog_1_method_20_code 5 (some FieldType.long) ∈ tbg := List.mem_filter.mpr ⟨List.mem_append_right _ (List.mem_of_getElem? (i := 410) (by decide +kernel)), rfl⟩
theorem tw_411 : Cond.constantLong RX4 175 (-9223372036854775808) ∈ tbg := List.mem_filter.mpr ⟨List.mem_append_right _ (List.mem_of_getElem? (i := 411) (by decide +kernel)), rfl⟩
theorem tw_412 : Cond.methodLink RX4 177 yX0_openWays ∈ tbg := List.mem_filter.mpr ⟨List.mem_append_right _ (List.mem_of_getElem? (i := 412) (by decide +kernel)), rfl⟩
theorem tw_413 : Cond.instanceMethod yX0_openWays ∈ tbg := List.mem_filter.mpr ⟨List.mem_append_right _ (List.mem_of_getElem? (i := 413) (by decide +kernel)), rfl⟩
theorem tw_414 : Cond.selects RX0 yX0_openWays yX0_openWays ∈ tbg := List.mem_filter.mpr ⟨List.mem_append_right _ (List.mem_of_getElem? (i := 414) (by decide +kernel)), rfl⟩
theorem tw_415 : Cond.code yX0_openWays prog_2_method_22_code 6 (some FieldType.int) ∈ tbg := List.mem_filter.mpr ⟨List.mem_append_right _ (List.mem_of_getElem? (i := 415) (by decide +kernel)), rfl⟩
theorem tw_416 : Cond.methodLink RL 96 yX4_sheet ∈ tbg := List.mem_filter.mpr ⟨List.mem_append_right _ (List.mem_of_getElem? (i := 416) (by decide +kernel)), rfl⟩
theorem tw_417 : Cond.instanceMethod yX4_sheet ∈ tbg := List.mem_filter.mpr ⟨List.mem_append_right _ (List.mem_of_getElem? (i := 417) (by decide +kernel)), rfl⟩
theorem tw_418 : Cond.selects RX4 yX4_sheet yX4_sheet ∈ tbg := List.mem_filter.mpr ⟨List.mem_append_right _ (List.mem_of_getElem? (i := 418) (by decide +kernel)), rfl⟩
theorem tw_419 : Cond.code yX4_sheet prog_1_method_21_code 4 (some FieldType.int) ∈ tbg := List.mem_filter.mpr ⟨List.mem_append_right _ (List.mem_of_getElem? (i := 419) (by decide +kernel)), rfl⟩
theorem tw_420 : Cond.methodLink RX4 180 yX2_becomeRow ∈ tbg := List.mem_filter.mpr ⟨List.mem_append_right _ (List.mem_of_getElem? (i := 420) (by decide +kernel)), rfl⟩
theorem tw_421 : Cond.instanceMethod yX2_becomeRow ∈ tbg := List.mem_filter.mpr ⟨List.mem_append_right _ (List.mem_of_getElem? (i := 421) (by decide +kernel)), rfl⟩
theorem tw_422 : Cond.selects RX2 yX2_becomeRow yX2_becomeRow ∈ tbg := List.mem_filter.mpr ⟨List.mem_append_right _ (List.mem_of_getElem? (i := 422) (by decide +kernel)), rfl⟩
theorem tw_423 : Cond.code yX2_becomeRow prog_4_method_4_code 4 none ∈ tbg := List.mem_filter.mpr ⟨List.mem_append_right _ (List.mem_of_getElem? (i := 423) (by decide +kernel)), rfl⟩
theorem tw_424 : Cond.methodLink RL 100 yX4_lose ∈ tbg := List.mem_filter.mpr ⟨List.mem_append_right _ (List.mem_of_getElem? (i := 424) (by decide +kernel)), rfl⟩
theorem tw_425 : Cond.instanceMethod yX4_lose ∈ tbg := List.mem_filter.mpr ⟨List.mem_append_right _ (List.mem_of_getElem? (i := 425) (by decide +kernel)), rfl⟩
theorem tw_426 : Cond.selects RX4 yX4_lose yX4_lose ∈ tbg := List.mem_filter.mpr ⟨List.mem_append_right _ (List.mem_of_getElem? (i := 426) (by decide +kernel)), rfl⟩
theorem tw_427 : Cond.code yX4_lose prog_1_method_22_code 3 (some FieldType.int) ∈ tbg := List.mem_filter.mpr ⟨List.mem_append_right _ (List.mem_of_getElem? (i := 427) (by decide +kernel)), rfl⟩
theorem tw_428 : Cond.methodLink RX4 184 yX2_isNothing ∈ tbg := List.mem_filter.mpr ⟨List.mem_append_right _ (List.mem_of_getElem? (i := 428) (by decide +kernel)), rfl⟩
theorem tw_429 : Cond.methodLink RX4 187 yX2_becomeNothing ∈ tbg := List.mem_filter.mpr ⟨List.mem_append_right _ (List.mem_of_getElem? (i := 429) (by decide +kernel)), rfl⟩
theorem tw_430 : Cond.instanceMethod yX2_becomeNothing ∈ tbg := List.mem_filter.mpr ⟨List.mem_append_right _ (List.mem_of_getElem? (i := 430) (by decide +kernel)), rfl⟩
theorem tw_431 : Cond.selects RX2 yX2_becomeNothing yX2_becomeNothing ∈ tbg := List.mem_filter.mpr ⟨List.mem_append_right _ (List.mem_of_getElem? (i := 431) (by decide +kernel)), rfl⟩
theorem tw_432 : Cond.code yX2_becomeNothing prog_4_method_3_code 1 none ∈ tbg := List.mem_filter.mpr ⟨List.mem_append_right _ (List.mem_of_getElem? (i := 432) (by decide +kernel)), rfl⟩
theorem tw_433 : Cond.methodLink RL 104 yX4_put ∈ tbg := List.mem_filter.mpr ⟨List.mem_append_right _ (List.mem_of_getElem? (i := 433) (by decide +kernel)), rfl⟩
theorem tw_434 : Cond.instanceMethod yX4_put ∈ tbg := List.mem_filter.mpr ⟨List.mem_append_right _ (List.mem_of_getElem? (i := 434) (by decide +kernel)), rfl⟩
theorem tw_435 : Cond.selects RX4 yX4_put yX4_put ∈ tbg := List.mem_filter.mpr ⟨List.mem_append_right _ (List.mem_of_getElem? (i := 435) (by decide +kernel)), rfl⟩
theorem tw_436 : Cond.code yX4_put prog_1_method_23_code 5 (some FieldType.int) ∈ tbg := List.mem_filter.mpr ⟨List.mem_append_right _ (List.mem_of_getElem? (i := 436) (by decide +kernel)), rfl⟩
theorem tw_437 : Cond.methodLink RX4 190 yX2_hasPlace ∈ tbg := List.mem_filter.mpr ⟨List.mem_append_right _ (List.mem_of_getElem? (i := 437) (by decide +kernel)), rfl⟩
theorem tw_438 : Cond.methodLink RX4 193 yX2_setAt ∈ tbg := List.mem_filter.mpr ⟨List.mem_append_right _ (List.mem_of_getElem? (i := 438) (by decide +kernel)), rfl⟩
theorem tw_439 : Cond.instanceMethod yX2_setAt ∈ tbg := List.mem_filter.mpr ⟨List.mem_append_right _ (List.mem_of_getElem? (i := 439) (by decide +kernel)), rfl⟩
theorem tw_440 : Cond.selects RX2 yX2_setAt yX2_setAt ∈ tbg := List.mem_filter.mpr ⟨List.mem_append_right _ (List.mem_of_getElem? (i := 440) (by decide +kernel)), rfl⟩
theorem tw_441 : Cond.code yX2_setAt prog_4_method_9_code 3 none ∈ tbg := List.mem_filter.mpr ⟨List.mem_append_right _ (List.mem_of_getElem? (i := 441) (by decide +kernel)), rfl⟩
theorem tw_442 : Cond.methodLink RX2 30 yX2_cutToLane ∈ tbg := List.mem_filter.mpr ⟨List.mem_append_right _ (List.mem_of_getElem? (i := 442) (by decide +kernel)), rfl⟩
theorem tw_444 : Cond.instanceMethod yX2_cutToLane ∈ tbg := List.mem_filter.mpr ⟨List.mem_append_right _ (List.mem_of_getElem? (i := 444) (by decide +kernel)), rfl⟩
theorem tw_445 : Cond.code yX2_cutToLane prog_4_method_10_code 2 (some FieldType.int) ∈ tbg := List.mem_filter.mpr ⟨List.mem_append_right _ (List.mem_of_getElem? (i := 445) (by decide +kernel)), rfl⟩
theorem tw_446 : Cond.methodLink RL 108 yX4_cell ∈ tbg := List.mem_filter.mpr ⟨List.mem_append_right _ (List.mem_of_getElem? (i := 446) (by decide +kernel)), rfl⟩
theorem tw_447 : Cond.instanceMethod yX4_cell ∈ tbg := List.mem_filter.mpr ⟨List.mem_append_right _ (List.mem_of_getElem? (i := 447) (by decide +kernel)), rfl⟩
theorem tw_448 : Cond.selects RX4 yX4_cell yX4_cell ∈ tbg := List.mem_filter.mpr ⟨List.mem_append_right _ (List.mem_of_getElem? (i := 448) (by decide +kernel)), rfl⟩
theorem tw_449 : Cond.code yX4_cell prog_1_method_24_code 5 (some FieldType.long) ∈ tbg := List.mem_filter.mpr ⟨List.mem_append_right _ (List.mem_of_getElem? (i := 449) (by decide +kernel)), rfl⟩
theorem tw_450 : Cond.methodLink RL 113 yX4_copy ∈ tbg := List.mem_filter.mpr ⟨List.mem_append_right _ (List.mem_of_getElem? (i := 450) (by decide +kernel)), rfl⟩
theorem tw_451 : Cond.instanceMethod yX4_copy ∈ tbg := List.mem_filter.mpr ⟨List.mem_append_right _ (List.mem_of_getElem? (i := 451) (by decide +kernel)), rfl⟩
theorem tw_452 : Cond.selects RX4 yX4_copy yX4_copy ∈ tbg := List.mem_filter.mpr ⟨List.mem_append_right _ (List.mem_of_getElem? (i := 452) (by decide +kernel)), rfl⟩
theorem tw_453 : Cond.code yX4_copy prog_1_method_25_code 8 (some FieldType.int) ∈ tbg := List.mem_filter.mpr ⟨List.mem_append_right _ (List.mem_of_getElem? (i := 453) (by decide +kernel)), rfl⟩
theorem tw_454 : Cond.methodLink RX4 205 ⟨"java/lang/System", "arraycopy", "(Ljava/lang/Object;ILjava/lang/Object;II)V"⟩ ∈ tbg := List.mem_filter.mpr ⟨List.mem_append_right _ (List.mem_of_getElem? (i := 454) (by decide +kernel)), rfl⟩
theorem tw_455 : Cond.static ⟨"java/lang/System", "arraycopy", "(Ljava/lang/Object;ILjava/lang/Object;II)V"⟩ ∈ tbg := List.mem_filter.mpr ⟨List.mem_append_right _ (List.mem_of_getElem? (i := 455) (by decide +kernel)), rfl⟩
theorem tw_456 : Cond.native ⟨"java/lang/System", "arraycopy", "(Ljava/lang/Object;ILjava/lang/Object;II)V"⟩ ∈ lw_tbl := List.mem_append_right _ (List.mem_of_getElem? (i := 456) (by decide +kernel))
theorem tw_457 : Cond.methodLink RL 117 yX4_tell ∈ tbg := List.mem_filter.mpr ⟨List.mem_append_right _ (List.mem_of_getElem? (i := 457) (by decide +kernel)), rfl⟩
theorem tw_458 : Cond.instanceMethod yX4_tell ∈ tbg := List.mem_filter.mpr ⟨List.mem_append_right _ (List.mem_of_getElem? (i := 458) (by decide +kernel)), rfl⟩
theorem tw_459 : Cond.selects RX4 yX4_tell yX4_tell ∈ tbg := List.mem_filter.mpr ⟨List.mem_append_right _ (List.mem_of_getElem? (i := 459) (by decide +kernel)), rfl⟩
theorem tw_460 : Cond.code yX4_tell prog_1_method_26_code 2 (some FieldType.int) ∈ tbg := List.mem_filter.mpr ⟨List.mem_append_right _ (List.mem_of_getElem? (i := 460) (by decide +kernel)), rfl⟩
theorem tw_461 : Cond.methodLink RX4 211 yX4_tellingOfSand ∈ tbg := List.mem_filter.mpr ⟨List.mem_append_right _ (List.mem_of_getElem? (i := 461) (by decide +kernel)), rfl⟩
theorem tw_463 : Cond.instanceMethod yX4_tellingOfSand ∈ tbg := List.mem_filter.mpr ⟨List.mem_append_right _ (List.mem_of_getElem? (i := 463) (by decide +kernel)), rfl⟩
theorem tw_464 : Cond.code yX4_tellingOfSand prog_1_method_38_code 2 (some FieldType.int) ∈ tbg := List.mem_filter.mpr ⟨List.mem_append_right _ (List.mem_of_getElem? (i := 464) (by decide +kernel)), rfl⟩
theorem tw_465 : Cond.methodLink RX4 220 yX4_leave ∈ tbg := List.mem_filter.mpr ⟨List.mem_append_right _ (List.mem_of_getElem? (i := 465) (by decide +kernel)), rfl⟩
theorem tw_467 : Cond.instanceMethod yX4_leave ∈ tbg := List.mem_filter.mpr ⟨List.mem_append_right _ (List.mem_of_getElem? (i := 467) (by decide +kernel)), rfl⟩
theorem tw_468 : Cond.code yX4_leave prog_1_method_36_code 2 none ∈ tbg := List.mem_filter.mpr ⟨List.mem_append_right _ (List.mem_of_getElem? (i := 468) (by decide +kernel)), rfl⟩
theorem tw_469 : Cond.methodLink RX4 217 yX4_tellingOfMud ∈ tbg := List.mem_filter.mpr ⟨List.mem_append_right _ (List.mem_of_getElem? (i := 469) (by decide +kernel)), rfl⟩
theorem tw_471 : Cond.instanceMethod yX4_tellingOfMud ∈ tbg := List.mem_filter.mpr ⟨List.mem_append_right _ (List.mem_of_getElem? (i := 471) (by decide +kernel)), rfl⟩
theorem tw_472 : Cond.code yX4_tellingOfMud prog_1_method_37_code 2 (some FieldType.int) ∈ tbg := List.mem_filter.mpr ⟨List.mem_append_right _ (List.mem_of_getElem? (i := 472) (by decide +kernel)), rfl⟩
theorem tw_473 : Cond.methodLink RX4 214 yX4_tellingOfClay ∈ tbg := List.mem_filter.mpr ⟨List.mem_append_right _ (List.mem_of_getElem? (i := 473) (by decide +kernel)), rfl⟩
theorem tw_475 : Cond.instanceMethod yX4_tellingOfClay ∈ tbg := List.mem_filter.mpr ⟨List.mem_append_right _ (List.mem_of_getElem? (i := 475) (by decide +kernel)), rfl⟩
theorem tw_476 : Cond.code yX4_tellingOfClay prog_1_method_39_code 3 (some FieldType.int) ∈ tbg := List.mem_filter.mpr ⟨List.mem_append_right _ (List.mem_of_getElem? (i := 476) (by decide +kernel)), rfl⟩
theorem tw_477 : Cond.methodLink RL 121 yX4_draw ∈ tbg := List.mem_filter.mpr ⟨List.mem_append_right _ (List.mem_of_getElem? (i := 477) (by decide +kernel)), rfl⟩
theorem tw_478 : Cond.instanceMethod yX4_draw ∈ tbg := List.mem_filter.mpr ⟨List.mem_append_right _ (List.mem_of_getElem? (i := 478) (by decide +kernel)), rfl⟩
theorem tw_479 : Cond.selects RX4 yX4_draw yX4_draw ∈ tbg := List.mem_filter.mpr ⟨List.mem_append_right _ (List.mem_of_getElem? (i := 479) (by decide +kernel)), rfl⟩
theorem tw_480 : Cond.code yX4_draw prog_1_method_27_code 2 (some FieldType.int) ∈ tbg := List.mem_filter.mpr ⟨List.mem_append_right _ (List.mem_of_getElem? (i := 480) (by decide +kernel)), rfl⟩
theorem tw_481 : Cond.methodLink RL 125 yX4_as ∈ tbg := List.mem_filter.mpr ⟨List.mem_append_right _ (List.mem_of_getElem? (i := 481) (by decide +kernel)), rfl⟩
theorem tw_482 : Cond.instanceMethod yX4_as ∈ tbg := List.mem_filter.mpr ⟨List.mem_append_right _ (List.mem_of_getElem? (i := 482) (by decide +kernel)), rfl⟩
theorem tw_483 : Cond.selects RX4 yX4_as yX4_as ∈ tbg := List.mem_filter.mpr ⟨List.mem_append_right _ (List.mem_of_getElem? (i := 483) (by decide +kernel)), rfl⟩
theorem tw_484 : Cond.code yX4_as prog_1_method_28_code 3 (some FieldType.int) ∈ tbg := List.mem_filter.mpr ⟨List.mem_append_right _ (List.mem_of_getElem? (i := 484) (by decide +kernel)), rfl⟩
theorem tw_485 : Cond.methodLink RL 129 yX4_trace ∈ tbg := List.mem_filter.mpr ⟨List.mem_append_right _ (List.mem_of_getElem? (i := 485) (by decide +kernel)), rfl⟩
theorem tw_486 : Cond.instanceMethod yX4_trace ∈ tbg := List.mem_filter.mpr ⟨List.mem_append_right _ (List.mem_of_getElem? (i := 486) (by decide +kernel)), rfl⟩
theorem tw_487 : Cond.selects RX4 yX4_trace yX4_trace ∈ tbg := List.mem_filter.mpr ⟨List.mem_append_right _ (List.mem_of_getElem? (i := 487) (by decide +kernel)), rfl⟩
theorem tw_488 : Cond.code yX4_trace prog_1_method_29_code 1 (some FieldType.int) ∈ tbg := List.mem_filter.mpr ⟨List.mem_append_right _ (List.mem_of_getElem? (i := 488) (by decide +kernel)), rfl⟩
theorem tw_489 : Cond.methodLink RL 133 yX4_fault ∈ tbg := List.mem_filter.mpr ⟨List.mem_append_right _ (List.mem_of_getElem? (i := 489) (by decide +kernel)), rfl⟩
theorem tw_490 : Cond.instanceMethod yX4_fault ∈ tbg := List.mem_filter.mpr ⟨List.mem_append_right _ (List.mem_of_getElem? (i := 490) (by decide +kernel)), rfl⟩
theorem tw_491 : Cond.selects RX4 yX4_fault yX4_fault ∈ tbg := List.mem_filter.mpr ⟨List.mem_append_right _ (List.mem_of_getElem? (i := 491) (by decide +kernel)), rfl⟩
theorem tw_492 : Cond.code yX4_fault prog_1_method_30_code 1 (some FieldType.int) ∈ tbg := List.mem_filter.mpr ⟨List.mem_append_right _ (List.mem_of_getElem? (i := 492) (by decide +kernel)), rfl⟩
theorem tw_493 : Cond.methodLink RL 137 yX4_many ∈ tbg := List.mem_filter.mpr ⟨List.mem_append_right _ (List.mem_of_getElem? (i := 493) (by decide +kernel)), rfl⟩
theorem tw_494 : Cond.instanceMethod yX4_many ∈ tbg := List.mem_filter.mpr ⟨List.mem_append_right _ (List.mem_of_getElem? (i := 494) (by decide +kernel)), rfl⟩
theorem tw_495 : Cond.selects RX4 yX4_many yX4_many ∈ tbg := List.mem_filter.mpr ⟨List.mem_append_right _ (List.mem_of_getElem? (i := 495) (by decide +kernel)), rfl⟩
theorem tw_496 : Cond.code yX4_many prog_1_method_31_code 2 (some FieldType.int) ∈ tbg := List.mem_filter.mpr ⟨List.mem_append_right _ (List.mem_of_getElem? (i := 496) (by decide +kernel)), rfl⟩
theorem tw_497 : Cond.classLink RL 10 "DriedMapModel" ∈ tbg := List.mem_filter.mpr ⟨List.mem_append_right _ (List.mem_of_getElem? (i := 497) (by decide +kernel)), rfl⟩
theorem tw_498 : Cond.instantiable RX5 25 ∈ tbg := List.mem_filter.mpr ⟨List.mem_append_right _ (List.mem_of_getElem? (i := 498) (by decide +kernel)), rfl⟩
theorem tw_499 : Cond.methodLink RL 12 yX5_init ∈ tbg := List.mem_filter.mpr ⟨List.mem_append_right _ (List.mem_of_getElem? (i := 499) (by decide +kernel)), rfl⟩
theorem tw_500 : Cond.instanceMethod yX5_init ∈ tbg := List.mem_filter.mpr ⟨List.mem_append_right _ (List.mem_of_getElem? (i := 500) (by decide +kernel)), rfl⟩
theorem tw_501 : Cond.code yX5_init prog_7_method_1_code 1 none ∈ tbg := List.mem_filter.mpr ⟨List.mem_append_right _ (List.mem_of_getElem? (i := 501) (by decide +kernel)), rfl⟩
theorem tw_502 : Cond.methodLink RX5 1 objectInit ∈ tbg := List.mem_filter.mpr ⟨List.mem_append_right _ (List.mem_of_getElem? (i := 502) (by decide +kernel)), rfl⟩
theorem tw_503 : Cond.fieldLink RX5 43 "DriedMapModel" "fault" "I" ∈ tbg := List.mem_filter.mpr ⟨List.mem_append_right _ (List.mem_of_getElem? (i := 503) (by decide +kernel)), rfl⟩
theorem tw_504 : Cond.fieldLink RX5 196 "DriedMapModel" "trace" "I" ∈ tbg := List.mem_filter.mpr ⟨List.mem_append_right _ (List.mem_of_getElem? (i := 504) (by decide +kernel)), rfl⟩
theorem tw_505 : Cond.fieldLink RX5 9 "DriedMapModel" "sorts" "[I" ∈ tbg := List.mem_filter.mpr ⟨List.mem_append_right _ (List.mem_of_getElem? (i := 505) (by decide +kernel)), rfl⟩
theorem tw_506 : Cond.fieldLink RX5 13 "DriedMapModel" "sheetLong" "[I" ∈ tbg := List.mem_filter.mpr ⟨List.mem_append_right _ (List.mem_of_getElem? (i := 506) (by decide +kernel)), rfl⟩
theorem tw_507 : Cond.fieldLink RX5 16 "DriedMapModel" "cells" "[I" ∈ tbg := List.mem_filter.mpr ⟨List.mem_append_right _ (List.mem_of_getElem? (i := 507) (by decide +kernel)), rfl⟩
theorem tw_508 : Cond.fieldLink RX5 90 "DriedMapModel" "sun" "I" ∈ tbg := List.mem_filter.mpr ⟨List.mem_append_right _ (List.mem_of_getElem? (i := 508) (by decide +kernel)), rfl⟩
theorem tw_509 : Cond.fieldLink RX5 53 "DriedMapModel" "wide" "I" ∈ tbg := List.mem_filter.mpr ⟨List.mem_append_right _ (List.mem_of_getElem? (i := 509) (by decide +kernel)), rfl⟩
theorem tw_510 : Cond.fieldLink RX5 56 "DriedMapModel" "deep" "I" ∈ tbg := List.mem_filter.mpr ⟨List.mem_append_right _ (List.mem_of_getElem? (i := 510) (by decide +kernel)), rfl⟩
theorem tw_511 : Cond.fieldLink RX5 99 "DriedMapModel" "hour" "I" ∈ tbg := List.mem_filter.mpr ⟨List.mem_append_right _ (List.mem_of_getElem? (i := 511) (by decide +kernel)), rfl⟩
theorem tw_512 : Cond.fieldLink RX5 19 "DriedMapModel" "kind" "[I" ∈ tbg := List.mem_filter.mpr ⟨List.mem_append_right _ (List.mem_of_getElem? (i := 512) (by decide +kernel)), rfl⟩
theorem tw_513 : Cond.fieldLink RX5 22 "DriedMapModel" "wet" "[I" ∈ tbg := List.mem_filter.mpr ⟨List.mem_append_right _ (List.mem_of_getElem? (i := 513) (by decide +kernel)), rfl⟩
theorem tw_514 : Cond.fieldLink RX5 63 "DriedMapModel" "at" "I" ∈ tbg := List.mem_filter.mpr ⟨List.mem_append_right _ (List.mem_of_getElem? (i := 514) (by decide +kernel)), rfl⟩
theorem tw_515 : Cond.fieldLink RX5 87 "DriedMapModel" "readSun" "I" ∈ tbg := List.mem_filter.mpr ⟨List.mem_append_right _ (List.mem_of_getElem? (i := 515) (by decide +kernel)), rfl⟩
theorem tw_516 : Cond.fieldLink RX5 93 "DriedMapModel" "readWide" "I" ∈ tbg := List.mem_filter.mpr ⟨List.mem_append_right _ (List.mem_of_getElem? (i := 516) (by decide +kernel)), rfl⟩
theorem tw_517 : Cond.fieldLink RX5 96 "DriedMapModel" "readDeep" "I" ∈ tbg := List.mem_filter.mpr ⟨List.mem_append_right _ (List.mem_of_getElem? (i := 517) (by decide +kernel)), rfl⟩
theorem tw_518 : Cond.fieldLink RX5 25 "DriedMapModel" "readKind" "[I" ∈ tbg := List.mem_filter.mpr ⟨List.mem_append_right _ (List.mem_of_getElem? (i := 518) (by decide +kernel)), rfl⟩
theorem tw_519 : Cond.fieldLink RX5 28 "DriedMapModel" "readWet" "[I" ∈ tbg := List.mem_filter.mpr ⟨List.mem_append_right _ (List.mem_of_getElem? (i := 519) (by decide +kernel)), rfl⟩
theorem tw_520 : Cond.fieldLink RX5 31 "DriedMapModel" "keptWet" "[I" ∈ tbg := List.mem_filter.mpr ⟨List.mem_append_right _ (List.mem_of_getElem? (i := 520) (by decide +kernel)), rfl⟩
theorem tw_521 : Cond.fieldLink RX5 154 "DriedMapModel" "keptSun" "I" ∈ tbg := List.mem_filter.mpr ⟨List.mem_append_right _ (List.mem_of_getElem? (i := 521) (by decide +kernel)), rfl⟩
theorem tw_522 : Cond.fieldLink RX5 157 "DriedMapModel" "openFirst" "I" ∈ tbg := List.mem_filter.mpr ⟨List.mem_append_right _ (List.mem_of_getElem? (i := 522) (by decide +kernel)), rfl⟩
theorem tw_523 : Cond.fieldLink RX5 160 "DriedMapModel" "planHours" "I" ∈ tbg := List.mem_filter.mpr ⟨List.mem_append_right _ (List.mem_of_getElem? (i := 523) (by decide +kernel)), rfl⟩
theorem tw_524 : Cond.fieldLink RX5 102 "DriedMapModel" "readings" "I" ∈ tbg := List.mem_filter.mpr ⟨List.mem_append_right _ (List.mem_of_getElem? (i := 524) (by decide +kernel)), rfl⟩
theorem tw_525 : Cond.fieldLink RX5 34 "DriedMapModel" "readCells" "[I" ∈ tbg := List.mem_filter.mpr ⟨List.mem_append_right _ (List.mem_of_getElem? (i := 525) (by decide +kernel)), rfl⟩
theorem tw_526 : Cond.fieldLink RX5 37 "DriedMapModel" "readHours" "[I" ∈ tbg := List.mem_filter.mpr ⟨List.mem_append_right _ (List.mem_of_getElem? (i := 526) (by decide +kernel)), rfl⟩
theorem tw_527 : Cond.fieldLink RX5 40 "DriedMapModel" "readCracked" "[I" ∈ tbg := List.mem_filter.mpr ⟨List.mem_append_right _ (List.mem_of_getElem? (i := 527) (by decide +kernel)), rfl⟩
theorem tw_579 : Cond.methodLink RL 17 yX5_bay ∈ tbg := List.mem_filter.mpr ⟨List.mem_append_right _ (List.mem_of_getElem? (i := 579) (by decide +kernel)), rfl⟩
theorem tw_580 : Cond.instanceMethod yX5_bay ∈ tbg := List.mem_filter.mpr ⟨List.mem_append_right _ (List.mem_of_getElem? (i := 580) (by decide +kernel)), rfl⟩
theorem tw_581 : Cond.selects RX5 yX5_bay yX5_bay ∈ tbg := List.mem_filter.mpr ⟨List.mem_append_right _ (List.mem_of_getElem? (i := 581) (by decide +kernel)), rfl⟩
theorem tw_582 : Cond.code yX5_bay prog_7_method_15_code 7 (some FieldType.int) ∈ tbg := List.mem_filter.mpr ⟨List.mem_append_right _ (List.mem_of_getElem? (i := 582) (by decide +kernel)), rfl⟩
theorem tw_583 : Cond.methodLink RX5 66 yX5_isSheet ∈ tbg := List.mem_filter.mpr ⟨List.mem_append_right _ (List.mem_of_getElem? (i := 583) (by decide +kernel)), rfl⟩
theorem tw_584 : Cond.static yX5_isSheet ∈ tbg := List.mem_filter.mpr ⟨List.mem_append_right _ (List.mem_of_getElem? (i := 584) (by decide +kernel)), rfl⟩
theorem tw_585 : Cond.code yX5_isSheet prog_7_method_6_code 1 (some FieldType.boolean) ∈ tbg := List.mem_filter.mpr ⟨List.mem_append_right _ (List.mem_of_getElem? (i := 585) (by decide +kernel)), rfl⟩
theorem tw_586 : Cond.methodLink RX5 49 yX5_within ∈ tbg := List.mem_filter.mpr ⟨List.mem_append_right _ (List.mem_of_getElem? (i := 586) (by decide +kernel)), rfl⟩
theorem tw_587 : Cond.static yX5_within ∈ tbg := List.mem_filter.mpr ⟨List.mem_append_right _ (List.mem_of_getElem? (i := 587) (by decide +kernel)), rfl⟩
theorem tw_588 : Cond.code yX5_within prog_7_method_5_code 3 (some FieldType.boolean) ∈ tbg := List.mem_filter.mpr ⟨List.mem_append_right _ (List.mem_of_getElem? (i := 588) (by decide +kernel)), rfl⟩
theorem tw_589 : Cond.methodLink RX5 70 yX5_isSort ∈ tbg := List.mem_filter.mpr ⟨List.mem_append_right _ (List.mem_of_getElem? (i := 589) (by decide +kernel)), rfl⟩
theorem tw_590 : Cond.static yX5_isSort ∈ tbg := List.mem_filter.mpr ⟨List.mem_append_right _ (List.mem_of_getElem? (i := 590) (by decide +kernel)), rfl⟩
theorem tw_591 : Cond.code yX5_isSort prog_7_method_7_code 1 (some FieldType.boolean) ∈ tbg := List.mem_filter.mpr ⟨List.mem_append_right _ (List.mem_of_getElem? (i := 591) (by decide +kernel)), rfl⟩
theorem tw_592 : Cond.methodLink RX5 73 yX5_against ∈ tbg := List.mem_filter.mpr ⟨List.mem_append_right _ (List.mem_of_getElem? (i := 592) (by decide +kernel)), rfl⟩
theorem tw_594 : Cond.instanceMethod yX5_against ∈ tbg := List.mem_filter.mpr ⟨List.mem_append_right _ (List.mem_of_getElem? (i := 594) (by decide +kernel)), rfl⟩
theorem tw_595 : Cond.code yX5_against prog_7_method_8_code 5 (some FieldType.int) ∈ tbg := List.mem_filter.mpr ⟨List.mem_append_right _ (List.mem_of_getElem? (i := 595) (by decide +kernel)), rfl⟩
theorem tw_596 : Cond.methodLink RX5 77 yX5_fails ∈ tbg := List.mem_filter.mpr ⟨List.mem_append_right _ (List.mem_of_getElem? (i := 596) (by decide +kernel)), rfl⟩
theorem tw_598 : Cond.instanceMethod yX5_fails ∈ tbg := List.mem_filter.mpr ⟨List.mem_append_right _ (List.mem_of_getElem? (i := 598) (by decide +kernel)), rfl⟩
theorem tw_599 : Cond.code yX5_fails prog_7_method_3_code 2 (some FieldType.int) ∈ tbg := List.mem_filter.mpr ⟨List.mem_append_right _ (List.mem_of_getElem? (i := 599) (by decide +kernel)), rfl⟩
theorem tw_600 : Cond.methodLink RX5 81 yX5_readBay ∈ tbg := List.mem_filter.mpr ⟨List.mem_append_right _ (List.mem_of_getElem? (i := 600) (by decide +kernel)), rfl⟩
theorem tw_602 : Cond.instanceMethod yX5_readBay ∈ tbg := List.mem_filter.mpr ⟨List.mem_append_right _ (List.mem_of_getElem? (i := 602) (by decide +kernel)), rfl⟩
theorem tw_603 : Cond.code yX5_readBay prog_7_method_17_code 3 (some FieldType.boolean) ∈ tbg := List.mem_filter.mpr ⟨List.mem_append_right _ (List.mem_of_getElem? (i := 603) (by decide +kernel)), rfl⟩
theorem tw_604 : Cond.methodLink RX5 105 yX5_digit ∈ tbg := List.mem_filter.mpr ⟨List.mem_append_right _ (List.mem_of_getElem? (i := 604) (by decide +kernel)), rfl⟩
theorem tw_606 : Cond.instanceMethod yX5_digit ∈ tbg := List.mem_filter.mpr ⟨List.mem_append_right _ (List.mem_of_getElem? (i := 606) (by decide +kernel)), rfl⟩
theorem tw_607 : Cond.code yX5_digit prog_7_method_14_code 4 (some FieldType.int) ∈ tbg := List.mem_filter.mpr ⟨List.mem_append_right _ (List.mem_of_getElem? (i := 607) (by decide +kernel)), rfl⟩
theorem tw_608 : Cond.methodLink RX5 109 yX5_readCell ∈ tbg := List.mem_filter.mpr ⟨List.mem_append_right _ (List.mem_of_getElem? (i := 608) (by decide +kernel)), rfl⟩
theorem tw_610 : Cond.instanceMethod yX5_readCell ∈ tbg := List.mem_filter.mpr ⟨List.mem_append_right _ (List.mem_of_getElem? (i := 610) (by decide +kernel)), rfl⟩
theorem tw_611 : Cond.code yX5_readCell prog_7_method_18_code 4 (some FieldType.boolean) ∈ tbg := List.mem_filter.mpr ⟨List.mem_append_right _ (List.mem_of_getElem? (i := 611) (by decide +kernel)), rfl⟩
theorem tw_612 : Cond.methodLink RX5 84 yX5_takeBay ∈ tbg := List.mem_filter.mpr ⟨List.mem_append_right _ (List.mem_of_getElem? (i := 612) (by decide +kernel)), rfl⟩
theorem tw_614 : Cond.instanceMethod yX5_takeBay ∈ tbg := List.mem_filter.mpr ⟨List.mem_append_right _ (List.mem_of_getElem? (i := 614) (by decide +kernel)), rfl⟩
theorem tw_615 : Cond.code yX5_takeBay prog_7_method_16_code 2 none ∈ tbg := List.mem_filter.mpr ⟨List.mem_append_right _ (List.mem_of_getElem? (i := 615) (by decide +kernel)), rfl⟩
theorem tw_616 : Cond.methodLink RX5 59 yX5_cellsOf ∈ tbg := List.mem_filter.mpr ⟨List.mem_append_right _ (List.mem_of_getElem? (i := 616) (by decide +kernel)), rfl⟩
theorem tw_618 : Cond.instanceMethod yX5_cellsOf ∈ tbg := List.mem_filter.mpr ⟨List.mem_append_right _ (List.mem_of_getElem? (i := 618) (by decide +kernel)), rfl⟩
theorem tw_619 : Cond.code yX5_cellsOf prog_7_method_9_code 1 (some FieldType.int) ∈ tbg := List.mem_filter.mpr ⟨List.mem_append_right _ (List.mem_of_getElem? (i := 619) (by decide +kernel)), rfl⟩
theorem tw_620 : Cond.methodLink RL 22 yX5_ofCell ∈ tbg := List.mem_filter.mpr ⟨List.mem_append_right _ (List.mem_of_getElem? (i := 620) (by decide +kernel)), rfl⟩
theorem tw_621 : Cond.instanceMethod yX5_ofCell ∈ tbg := List.mem_filter.mpr ⟨List.mem_append_right _ (List.mem_of_getElem? (i := 621) (by decide +kernel)), rfl⟩
theorem tw_622 : Cond.selects RX5 yX5_ofCell yX5_ofCell ∈ tbg := List.mem_filter.mpr ⟨List.mem_append_right _ (List.mem_of_getElem? (i := 622) (by decide +kernel)), rfl⟩
theorem tw_623 : Cond.code yX5_ofCell prog_7_method_26_code 3 (some FieldType.int) ∈ tbg := List.mem_filter.mpr ⟨List.mem_append_right _ (List.mem_of_getElem? (i := 623) (by decide +kernel)), rfl⟩
theorem tw_624 : Cond.methodLink RX5 132 yX5_isCell ∈ tbg := List.mem_filter.mpr ⟨List.mem_append_right _ (List.mem_of_getElem? (i := 624) (by decide +kernel)), rfl⟩
theorem tw_626 : Cond.instanceMethod yX5_isCell ∈ tbg := List.mem_filter.mpr ⟨List.mem_append_right _ (List.mem_of_getElem? (i := 626) (by decide +kernel)), rfl⟩
theorem tw_627 : Cond.code yX5_isCell prog_7_method_10_code 2 (some FieldType.boolean) ∈ tbg := List.mem_filter.mpr ⟨List.mem_append_right _ (List.mem_of_getElem? (i := 627) (by decide +kernel)), rfl⟩
theorem tw_628 : Cond.methodLink RX5 113 yX5_losesOf ∈ tbg := List.mem_filter.mpr ⟨List.mem_append_right _ (List.mem_of_getElem? (i := 628) (by decide +kernel)), rfl⟩
theorem tw_630 : Cond.instanceMethod yX5_losesOf ∈ tbg := List.mem_filter.mpr ⟨List.mem_append_right _ (List.mem_of_getElem? (i := 630) (by decide +kernel)), rfl⟩
theorem tw_631 : Cond.code yX5_losesOf prog_7_method_19_code 2 (some FieldType.int) ∈ tbg := List.mem_filter.mpr ⟨List.mem_append_right _ (List.mem_of_getElem? (i := 631) (by decide +kernel)), rfl⟩
theorem tw_632 : Cond.methodLink RX5 135 yX5_pieceOf ∈ tbg := List.mem_filter.mpr ⟨List.mem_append_right _ (List.mem_of_getElem? (i := 632) (by decide +kernel)), rfl⟩
theorem tw_634 : Cond.instanceMethod yX5_pieceOf ∈ tbg := List.mem_filter.mpr ⟨List.mem_append_right _ (List.mem_of_getElem? (i := 634) (by decide +kernel)), rfl⟩
theorem tw_635 : Cond.code yX5_pieceOf prog_7_method_25_code 4 (some FieldType.int) ∈ tbg := List.mem_filter.mpr ⟨List.mem_append_right _ (List.mem_of_getElem? (i := 635) (by decide +kernel)), rfl⟩
theorem tw_636 : Cond.methodLink RX5 129 yX5_crackedBehind ∈ tbg := List.mem_filter.mpr ⟨List.mem_append_right _ (List.mem_of_getElem? (i := 636) (by decide +kernel)), rfl⟩
theorem tw_638 : Cond.instanceMethod yX5_crackedBehind ∈ tbg := List.mem_filter.mpr ⟨List.mem_append_right _ (List.mem_of_getElem? (i := 638) (by decide +kernel)), rfl⟩
theorem tw_639 : Cond.code yX5_crackedBehind prog_7_method_21_code 4 (some FieldType.int) ∈ tbg := List.mem_filter.mpr ⟨List.mem_append_right _ (List.mem_of_getElem? (i := 639) (by decide +kernel)), rfl⟩
theorem tw_640 : Cond.methodLink RX5 116 yX5_wetBehind ∈ tbg := List.mem_filter.mpr ⟨List.mem_append_right _ (List.mem_of_getElem? (i := 640) (by decide +kernel)), rfl⟩
theorem tw_642 : Cond.instanceMethod yX5_wetBehind ∈ tbg := List.mem_filter.mpr ⟨List.mem_append_right _ (List.mem_of_getElem? (i := 642) (by decide +kernel)), rfl⟩
theorem tw_643 : Cond.code yX5_wetBehind prog_7_method_20_code 4 (some FieldType.int) ∈ tbg := List.mem_filter.mpr ⟨List.mem_append_right _ (List.mem_of_getElem? (i := 643) (by decide +kernel)), rfl⟩
theorem tw_644 : Cond.methodLink RX5 126 yX5_spreadIn ∈ tbg := List.mem_filter.mpr ⟨List.mem_append_right _ (List.mem_of_getElem? (i := 644) (by decide +kernel)), rfl⟩
theorem tw_646 : Cond.instanceMethod yX5_spreadIn ∈ tbg := List.mem_filter.mpr ⟨List.mem_append_right _ (List.mem_of_getElem? (i := 646) (by decide +kernel)), rfl⟩
theorem tw_647 : Cond.code yX5_spreadIn prog_7_method_23_code 6 (some FieldType.int) ∈ tbg := List.mem_filter.mpr ⟨List.mem_append_right _ (List.mem_of_getElem? (i := 647) (by decide +kernel)), rfl⟩
theorem tw_648 : Cond.methodLink RX5 120 yX5_isOf ∈ tbg := List.mem_filter.mpr ⟨List.mem_append_right _ (List.mem_of_getElem? (i := 648) (by decide +kernel)), rfl⟩
theorem tw_649 : Cond.static yX5_isOf ∈ tbg := List.mem_filter.mpr ⟨List.mem_append_right _ (List.mem_of_getElem? (i := 649) (by decide +kernel)), rfl⟩
theorem tw_650 : Cond.code yX5_isOf prog_7_method_12_code 2 (some FieldType.boolean) ∈ tbg := List.mem_filter.mpr ⟨List.mem_append_right _ (List.mem_of_getElem? (i := 650) (by decide +kernel)), rfl⟩
theorem tw_651 : Cond.methodLink RX5 123 yX5_besides ∈ tbg := List.mem_filter.mpr ⟨List.mem_append_right _ (List.mem_of_getElem? (i := 651) (by decide +kernel)), rfl⟩
theorem tw_653 : Cond.instanceMethod yX5_besides ∈ tbg := List.mem_filter.mpr ⟨List.mem_append_right _ (List.mem_of_getElem? (i := 653) (by decide +kernel)), rfl⟩
theorem tw_654 : Cond.code yX5_besides prog_7_method_22_code 3 (some FieldType.int) ∈ tbg := List.mem_filter.mpr ⟨List.mem_append_right _ (List.mem_of_getElem? (i := 654) (by decide +kernel)), rfl⟩
theorem tw_655 : Cond.methodLink RX5 138 yX5_size ∈ tbg := List.mem_filter.mpr ⟨List.mem_append_right _ (List.mem_of_getElem? (i := 655) (by decide +kernel)), rfl⟩
theorem tw_656 : Cond.static yX5_size ∈ tbg := List.mem_filter.mpr ⟨List.mem_append_right _ (List.mem_of_getElem? (i := 656) (by decide +kernel)), rfl⟩
theorem tw_657 : Cond.code yX5_size prog_7_method_13_code 3 (some FieldType.int) ∈ tbg := List.mem_filter.mpr ⟨List.mem_append_right _ (List.mem_of_getElem? (i := 657) (by decide +kernel)), rfl⟩
theorem tw_658 : Cond.methodLink RL 27 yX5_shine ∈ tbg := List.mem_filter.mpr ⟨List.mem_append_right _ (List.mem_of_getElem? (i := 658) (by decide +kernel)), rfl⟩
theorem tw_659 : Cond.instanceMethod yX5_shine ∈ tbg := List.mem_filter.mpr ⟨List.mem_append_right _ (List.mem_of_getElem? (i := 659) (by decide +kernel)), rfl⟩
theorem tw_660 : Cond.selects RX5 yX5_shine yX5_shine ∈ tbg := List.mem_filter.mpr ⟨List.mem_append_right _ (List.mem_of_getElem? (i := 660) (by decide +kernel)), rfl⟩
theorem tw_661 : Cond.code yX5_shine prog_7_method_27_code 3 (some FieldType.int) ∈ tbg := List.mem_filter.mpr ⟨List.mem_append_right _ (List.mem_of_getElem? (i := 661) (by decide +kernel)), rfl⟩
theorem tw_662 : Cond.methodLink RX5 141 yX5_isDigit ∈ tbg := List.mem_filter.mpr ⟨List.mem_append_right _ (List.mem_of_getElem? (i := 662) (by decide +kernel)), rfl⟩
theorem tw_663 : Cond.static yX5_isDigit ∈ tbg := List.mem_filter.mpr ⟨List.mem_append_right _ (List.mem_of_getElem? (i := 663) (by decide +kernel)), rfl⟩
theorem tw_664 : Cond.code yX5_isDigit prog_7_method_11_code 1 (some FieldType.boolean) ∈ tbg := List.mem_filter.mpr ⟨List.mem_append_right _ (List.mem_of_getElem? (i := 664) (by decide +kernel)), rfl⟩
theorem tw_665 : Cond.methodLink RL 31 yX5_silt ∈ tbg := List.mem_filter.mpr ⟨List.mem_append_right _ (List.mem_of_getElem? (i := 665) (by decide +kernel)), rfl⟩
theorem tw_666 : Cond.instanceMethod yX5_silt ∈ tbg := List.mem_filter.mpr ⟨List.mem_append_right _ (List.mem_of_getElem? (i := 666) (by decide +kernel)), rfl⟩
theorem tw_667 : Cond.selects RX5 yX5_silt yX5_silt ∈ tbg := List.mem_filter.mpr ⟨List.mem_append_right _ (List.mem_of_getElem? (i := 667) (by decide +kernel)), rfl⟩
theorem tw_668 : Cond.code yX5_silt prog_7_method_28_code 4 (some FieldType.int) ∈ tbg := List.mem_filter.mpr ⟨List.mem_append_right _ (List.mem_of_getElem? (i := 668) (by decide +kernel)), rfl⟩
theorem tw_669 : Cond.methodLink RL 35 yX5_dry ∈ tbg := List.mem_filter.mpr ⟨List.mem_append_right _ (List.mem_of_getElem? (i := 669) (by decide +kernel)), rfl⟩
theorem tw_670 : Cond.instanceMethod yX5_dry ∈ tbg := List.mem_filter.mpr ⟨List.mem_append_right _ (List.mem_of_getElem? (i := 670) (by decide +kernel)), rfl⟩
theorem tw_671 : Cond.selects RX5 yX5_dry yX5_dry ∈ tbg := List.mem_filter.mpr ⟨List.mem_append_right _ (List.mem_of_getElem? (i := 671) (by decide +kernel)), rfl⟩
theorem tw_672 : Cond.code yX5_dry prog_7_method_30_code 3 (some FieldType.int) ∈ tbg := List.mem_filter.mpr ⟨List.mem_append_right _ (List.mem_of_getElem? (i := 672) (by decide +kernel)), rfl⟩
theorem tw_673 : Cond.methodLink RX5 144 yX5_dryBy ∈ tbg := List.mem_filter.mpr ⟨List.mem_append_right _ (List.mem_of_getElem? (i := 673) (by decide +kernel)), rfl⟩
theorem tw_675 : Cond.instanceMethod yX5_dryBy ∈ tbg := List.mem_filter.mpr ⟨List.mem_append_right _ (List.mem_of_getElem? (i := 675) (by decide +kernel)), rfl⟩
theorem tw_676 : Cond.code yX5_dryBy prog_7_method_29_code 3 none ∈ tbg := List.mem_filter.mpr ⟨List.mem_append_right _ (List.mem_of_getElem? (i := 676) (by decide +kernel)), rfl⟩
theorem tw_677 : Cond.methodLink RL 39 yX5_pour ∈ tbg := List.mem_filter.mpr ⟨List.mem_append_right _ (List.mem_of_getElem? (i := 677) (by decide +kernel)), rfl⟩
theorem tw_678 : Cond.instanceMethod yX5_pour ∈ tbg := List.mem_filter.mpr ⟨List.mem_append_right _ (List.mem_of_getElem? (i := 678) (by decide +kernel)), rfl⟩
theorem tw_679 : Cond.selects RX5 yX5_pour yX5_pour ∈ tbg := List.mem_filter.mpr ⟨List.mem_append_right _ (List.mem_of_getElem? (i := 679) (by decide +kernel)), rfl⟩
theorem tw_680 : Cond.code yX5_pour prog_7_method_32_code 3 (some FieldType.int) ∈ tbg := List.mem_filter.mpr ⟨List.mem_append_right _ (List.mem_of_getElem? (i := 680) (by decide +kernel)), rfl⟩
theorem tw_681 : Cond.methodLink RX5 148 yX5_pouredOn ∈ tbg := List.mem_filter.mpr ⟨List.mem_append_right _ (List.mem_of_getElem? (i := 681) (by decide +kernel)), rfl⟩
theorem tw_683 : Cond.instanceMethod yX5_pouredOn ∈ tbg := List.mem_filter.mpr ⟨List.mem_append_right _ (List.mem_of_getElem? (i := 683) (by decide +kernel)), rfl⟩
theorem tw_684 : Cond.code yX5_pouredOn prog_7_method_31_code 3 (some FieldType.int) ∈ tbg := List.mem_filter.mpr ⟨List.mem_append_right _ (List.mem_of_getElem? (i := 684) (by decide +kernel)), rfl⟩
theorem tw_685 : Cond.methodLink RL 43 yX5_cracks ∈ tbg := List.mem_filter.mpr ⟨List.mem_append_right _ (List.mem_of_getElem? (i := 685) (by decide +kernel)), rfl⟩
theorem tw_686 : Cond.instanceMethod yX5_cracks ∈ tbg := List.mem_filter.mpr ⟨List.mem_append_right _ (List.mem_of_getElem? (i := 686) (by decide +kernel)), rfl⟩
theorem tw_687 : Cond.selects RX5 yX5_cracks yX5_cracks ∈ tbg := List.mem_filter.mpr ⟨List.mem_append_right _ (List.mem_of_getElem? (i := 687) (by decide +kernel)), rfl⟩
theorem tw_688 : Cond.code yX5_cracks prog_7_method_33_code 8 (some FieldType.int) ∈ tbg := List.mem_filter.mpr ⟨List.mem_append_right _ (List.mem_of_getElem? (i := 688) (by decide +kernel)), rfl⟩
theorem tw_689 : Cond.methodLink RX5 151 yX5_isOpen ∈ tbg := List.mem_filter.mpr ⟨List.mem_append_right _ (List.mem_of_getElem? (i := 689) (by decide +kernel)), rfl⟩
theorem tw_691 : Cond.instanceMethod yX5_isOpen ∈ tbg := List.mem_filter.mpr ⟨List.mem_append_right _ (List.mem_of_getElem? (i := 691) (by decide +kernel)), rfl⟩
theorem tw_692 : Cond.code yX5_isOpen prog_7_method_24_code 4 (some FieldType.boolean) ∈ tbg := List.mem_filter.mpr ⟨List.mem_append_right _ (List.mem_of_getElem? (i := 692) (by decide +kernel)), rfl⟩
theorem tw_693 : Cond.methodLink RL 47 yX5_way ∈ tbg := List.mem_filter.mpr ⟨List.mem_append_right _ (List.mem_of_getElem? (i := 693) (by decide +kernel)), rfl⟩
theorem tw_694 : Cond.instanceMethod yX5_way ∈ tbg := List.mem_filter.mpr ⟨List.mem_append_right _ (List.mem_of_getElem? (i := 694) (by decide +kernel)), rfl⟩
theorem tw_695 : Cond.selects RX5 yX5_way yX5_way ∈ tbg := List.mem_filter.mpr ⟨List.mem_append_right _ (List.mem_of_getElem? (i := 695) (by decide +kernel)), rfl⟩
theorem tw_696 : Cond.code yX5_way prog_7_method_34_code 8 (some FieldType.int) ∈ tbg := List.mem_filter.mpr ⟨List.mem_append_right _ (List.mem_of_getElem? (i := 696) (by decide +kernel)), rfl⟩
theorem tw_697 : Cond.methodLink RL 52 yX5_plan ∈ tbg := List.mem_filter.mpr ⟨List.mem_append_right _ (List.mem_of_getElem? (i := 697) (by decide +kernel)), rfl⟩
theorem tw_698 : Cond.instanceMethod yX5_plan ∈ tbg := List.mem_filter.mpr ⟨List.mem_append_right _ (List.mem_of_getElem? (i := 698) (by decide +kernel)), rfl⟩
theorem tw_699 : Cond.selects RX5 yX5_plan yX5_plan ∈ tbg := List.mem_filter.mpr ⟨List.mem_append_right _ (List.mem_of_getElem? (i := 699) (by decide +kernel)), rfl⟩
theorem tw_700 : Cond.code yX5_plan prog_7_method_41_code 10 (some FieldType.int) ∈ tbg := List.mem_filter.mpr ⟨List.mem_append_right _ (List.mem_of_getElem? (i := 700) (by decide +kernel)), rfl⟩
theorem tw_701 : Cond.methodLink RX5 169 yX5_refusesPair ∈ tbg := List.mem_filter.mpr ⟨List.mem_append_right _ (List.mem_of_getElem? (i := 701) (by decide +kernel)), rfl⟩
theorem tw_703 : Cond.instanceMethod yX5_refusesPair ∈ tbg := List.mem_filter.mpr ⟨List.mem_append_right _ (List.mem_of_getElem? (i := 703) (by decide +kernel)), rfl⟩
theorem tw_704 : Cond.code yX5_refusesPair prog_7_method_37_code 3 (some FieldType.int) ∈ tbg := List.mem_filter.mpr ⟨List.mem_append_right _ (List.mem_of_getElem? (i := 704) (by decide +kernel)), rfl⟩
theorem tw_705 : Cond.methodLink RX5 172 yX5_keep ∈ tbg := List.mem_filter.mpr ⟨List.mem_append_right _ (List.mem_of_getElem? (i := 705) (by decide +kernel)), rfl⟩
theorem tw_707 : Cond.instanceMethod yX5_keep ∈ tbg := List.mem_filter.mpr ⟨List.mem_append_right _ (List.mem_of_getElem? (i := 707) (by decide +kernel)), rfl⟩
theorem tw_708 : Cond.code yX5_keep prog_7_method_35_code 2 none ∈ tbg := List.mem_filter.mpr ⟨List.mem_append_right _ (List.mem_of_getElem? (i := 708) (by decide +kernel)), rfl⟩
theorem tw_709 : Cond.methodLink RX5 175 yX5_goPlan ∈ tbg := List.mem_filter.mpr ⟨List.mem_append_right _ (List.mem_of_getElem? (i := 709) (by decide +kernel)), rfl⟩
theorem tw_711 : Cond.instanceMethod yX5_goPlan ∈ tbg := List.mem_filter.mpr ⟨List.mem_append_right _ (List.mem_of_getElem? (i := 711) (by decide +kernel)), rfl⟩
theorem tw_712 : Cond.code yX5_goPlan prog_7_method_40_code 4 (some FieldType.int) ∈ tbg := List.mem_filter.mpr ⟨List.mem_append_right _ (List.mem_of_getElem? (i := 712) (by decide +kernel)), rfl⟩
theorem tw_713 : Cond.methodLink RX5 163 yX5_noteOpen ∈ tbg := List.mem_filter.mpr ⟨List.mem_append_right _ (List.mem_of_getElem? (i := 713) (by decide +kernel)), rfl⟩
theorem tw_715 : Cond.instanceMethod yX5_noteOpen ∈ tbg := List.mem_filter.mpr ⟨List.mem_append_right _ (List.mem_of_getElem? (i := 715) (by decide +kernel)), rfl⟩
theorem tw_716 : Cond.code yX5_noteOpen prog_7_method_38_code 1 none ∈ tbg := List.mem_filter.mpr ⟨List.mem_append_right _ (List.mem_of_getElem? (i := 716) (by decide +kernel)), rfl⟩
theorem tw_717 : Cond.methodLink RX5 166 yX5_does ∈ tbg := List.mem_filter.mpr ⟨List.mem_append_right _ (List.mem_of_getElem? (i := 717) (by decide +kernel)), rfl⟩
theorem tw_719 : Cond.instanceMethod yX5_does ∈ tbg := List.mem_filter.mpr ⟨List.mem_append_right _ (List.mem_of_getElem? (i := 719) (by decide +kernel)), rfl⟩
theorem tw_720 : Cond.code yX5_does prog_7_method_39_code 4 (some FieldType.boolean) ∈ tbg := List.mem_filter.mpr ⟨List.mem_append_right _ (List.mem_of_getElem? (i := 720) (by decide +kernel)), rfl⟩
theorem tw_721 : Cond.methodLink RX5 178 yX5_tellPlan ∈ tbg := List.mem_filter.mpr ⟨List.mem_append_right _ (List.mem_of_getElem? (i := 721) (by decide +kernel)), rfl⟩
theorem tw_723 : Cond.instanceMethod yX5_tellPlan ∈ tbg := List.mem_filter.mpr ⟨List.mem_append_right _ (List.mem_of_getElem? (i := 723) (by decide +kernel)), rfl⟩
theorem tw_724 : Cond.code yX5_tellPlan prog_7_method_42_code 4 (some FieldType.int) ∈ tbg := List.mem_filter.mpr ⟨List.mem_append_right _ (List.mem_of_getElem? (i := 724) (by decide +kernel)), rfl⟩
theorem tw_725 : Cond.methodLink RX5 181 yX5_putBack ∈ tbg := List.mem_filter.mpr ⟨List.mem_append_right _ (List.mem_of_getElem? (i := 725) (by decide +kernel)), rfl⟩
theorem tw_727 : Cond.instanceMethod yX5_putBack ∈ tbg := List.mem_filter.mpr ⟨List.mem_append_right _ (List.mem_of_getElem? (i := 727) (by decide +kernel)), rfl⟩
theorem tw_728 : Cond.code yX5_putBack prog_7_method_36_code 2 none ∈ tbg := List.mem_filter.mpr ⟨List.mem_append_right _ (List.mem_of_getElem? (i := 728) (by decide +kernel)), rfl⟩
theorem tw_729 : Cond.methodLink RL 56 yX5_when ∈ tbg := List.mem_filter.mpr ⟨List.mem_append_right _ (List.mem_of_getElem? (i := 729) (by decide +kernel)), rfl⟩
theorem tw_730 : Cond.instanceMethod yX5_when ∈ tbg := List.mem_filter.mpr ⟨List.mem_append_right _ (List.mem_of_getElem? (i := 730) (by decide +kernel)), rfl⟩
theorem tw_731 : Cond.selects RX5 yX5_when yX5_when ∈ tbg := List.mem_filter.mpr ⟨List.mem_append_right _ (List.mem_of_getElem? (i := 731) (by decide +kernel)), rfl⟩
theorem tw_732 : Cond.code yX5_when prog_7_method_43_code 3 (some FieldType.int) ∈ tbg := List.mem_filter.mpr ⟨List.mem_append_right _ (List.mem_of_getElem? (i := 732) (by decide +kernel)), rfl⟩
theorem tw_733 : Cond.methodLink RL 61 yX5_opens ∈ tbg := List.mem_filter.mpr ⟨List.mem_append_right _ (List.mem_of_getElem? (i := 733) (by decide +kernel)), rfl⟩
theorem tw_734 : Cond.instanceMethod yX5_opens ∈ tbg := List.mem_filter.mpr ⟨List.mem_append_right _ (List.mem_of_getElem? (i := 734) (by decide +kernel)), rfl⟩
theorem tw_735 : Cond.selects RX5 yX5_opens yX5_opens ∈ tbg := List.mem_filter.mpr ⟨List.mem_append_right _ (List.mem_of_getElem? (i := 735) (by decide +kernel)), rfl⟩
theorem tw_736 : Cond.code yX5_opens prog_7_method_44_code 2 (some FieldType.int) ∈ tbg := List.mem_filter.mpr ⟨List.mem_append_right _ (List.mem_of_getElem? (i := 736) (by decide +kernel)), rfl⟩
theorem tw_737 : Cond.methodLink RL 65 yX5_bars ∈ tbg := List.mem_filter.mpr ⟨List.mem_append_right _ (List.mem_of_getElem? (i := 737) (by decide +kernel)), rfl⟩
theorem tw_738 : Cond.instanceMethod yX5_bars ∈ tbg := List.mem_filter.mpr ⟨List.mem_append_right _ (List.mem_of_getElem? (i := 738) (by decide +kernel)), rfl⟩
theorem tw_739 : Cond.selects RX5 yX5_bars yX5_bars ∈ tbg := List.mem_filter.mpr ⟨List.mem_append_right _ (List.mem_of_getElem? (i := 739) (by decide +kernel)), rfl⟩
theorem tw_740 : Cond.code yX5_bars prog_7_method_45_code 6 (some FieldType.int) ∈ tbg := List.mem_filter.mpr ⟨List.mem_append_right _ (List.mem_of_getElem? (i := 740) (by decide +kernel)), rfl⟩
theorem tw_741 : Cond.methodLink RL 69 yX5_dates ∈ tbg := List.mem_filter.mpr ⟨List.mem_append_right _ (List.mem_of_getElem? (i := 741) (by decide +kernel)), rfl⟩
theorem tw_742 : Cond.instanceMethod yX5_dates ∈ tbg := List.mem_filter.mpr ⟨List.mem_append_right _ (List.mem_of_getElem? (i := 742) (by decide +kernel)), rfl⟩
theorem tw_743 : Cond.selects RX5 yX5_dates yX5_dates ∈ tbg := List.mem_filter.mpr ⟨List.mem_append_right _ (List.mem_of_getElem? (i := 743) (by decide +kernel)), rfl⟩
theorem tw_744 : Cond.code yX5_dates prog_7_method_46_code 4 (some FieldType.int) ∈ tbg := List.mem_filter.mpr ⟨List.mem_append_right _ (List.mem_of_getElem? (i := 744) (by decide +kernel)), rfl⟩
theorem tw_745 : Cond.methodLink RL 74 yX5_reading ∈ tbg := List.mem_filter.mpr ⟨List.mem_append_right _ (List.mem_of_getElem? (i := 745) (by decide +kernel)), rfl⟩
theorem tw_746 : Cond.instanceMethod yX5_reading ∈ tbg := List.mem_filter.mpr ⟨List.mem_append_right _ (List.mem_of_getElem? (i := 746) (by decide +kernel)), rfl⟩
theorem tw_747 : Cond.selects RX5 yX5_reading yX5_reading ∈ tbg := List.mem_filter.mpr ⟨List.mem_append_right _ (List.mem_of_getElem? (i := 747) (by decide +kernel)), rfl⟩
theorem tw_748 : Cond.code yX5_reading prog_7_method_47_code 4 (some FieldType.int) ∈ tbg := List.mem_filter.mpr ⟨List.mem_append_right _ (List.mem_of_getElem? (i := 748) (by decide +kernel)), rfl⟩
theorem tw_749 : Cond.methodLink RL 78 yX5_back ∈ tbg := List.mem_filter.mpr ⟨List.mem_append_right _ (List.mem_of_getElem? (i := 749) (by decide +kernel)), rfl⟩
theorem tw_750 : Cond.instanceMethod yX5_back ∈ tbg := List.mem_filter.mpr ⟨List.mem_append_right _ (List.mem_of_getElem? (i := 750) (by decide +kernel)), rfl⟩
theorem tw_751 : Cond.selects RX5 yX5_back yX5_back ∈ tbg := List.mem_filter.mpr ⟨List.mem_append_right _ (List.mem_of_getElem? (i := 751) (by decide +kernel)), rfl⟩
theorem tw_752 : Cond.code yX5_back prog_7_method_48_code 2 (some FieldType.int) ∈ tbg := List.mem_filter.mpr ⟨List.mem_append_right _ (List.mem_of_getElem? (i := 752) (by decide +kernel)), rfl⟩
theorem tw_753 : Cond.methodLink RL 82 yX5_wets ∈ tbg := List.mem_filter.mpr ⟨List.mem_append_right _ (List.mem_of_getElem? (i := 753) (by decide +kernel)), rfl⟩
theorem tw_754 : Cond.instanceMethod yX5_wets ∈ tbg := List.mem_filter.mpr ⟨List.mem_append_right _ (List.mem_of_getElem? (i := 754) (by decide +kernel)), rfl⟩
theorem tw_755 : Cond.selects RX5 yX5_wets yX5_wets ∈ tbg := List.mem_filter.mpr ⟨List.mem_append_right _ (List.mem_of_getElem? (i := 755) (by decide +kernel)), rfl⟩
theorem tw_756 : Cond.code yX5_wets prog_7_method_50_code 5 (some FieldType.int) ∈ tbg := List.mem_filter.mpr ⟨List.mem_append_right _ (List.mem_of_getElem? (i := 756) (by decide +kernel)), rfl⟩
theorem tw_757 : Cond.methodLink RX5 184 yX5_areSo ∈ tbg := List.mem_filter.mpr ⟨List.mem_append_right _ (List.mem_of_getElem? (i := 757) (by decide +kernel)), rfl⟩
theorem tw_759 : Cond.instanceMethod yX5_areSo ∈ tbg := List.mem_filter.mpr ⟨List.mem_append_right _ (List.mem_of_getElem? (i := 759) (by decide +kernel)), rfl⟩
theorem tw_760 : Cond.code yX5_areSo prog_7_method_49_code 3 (some FieldType.boolean) ∈ tbg := List.mem_filter.mpr ⟨List.mem_append_right _ (List.mem_of_getElem? (i := 760) (by decide +kernel)), rfl⟩
theorem tw_761 : Cond.methodLink RL 86 yX5_kinds ∈ tbg := List.mem_filter.mpr ⟨List.mem_append_right _ (List.mem_of_getElem? (i := 761) (by decide +kernel)), rfl⟩
theorem tw_762 : Cond.instanceMethod yX5_kinds ∈ tbg := List.mem_filter.mpr ⟨List.mem_append_right _ (List.mem_of_getElem? (i := 762) (by decide +kernel)), rfl⟩
theorem tw_763 : Cond.selects RX5 yX5_kinds yX5_kinds ∈ tbg := List.mem_filter.mpr ⟨List.mem_append_right _ (List.mem_of_getElem? (i := 763) (by decide +kernel)), rfl⟩
theorem tw_764 : Cond.code yX5_kinds prog_7_method_51_code 5 (some FieldType.int) ∈ tbg := List.mem_filter.mpr ⟨List.mem_append_right _ (List.mem_of_getElem? (i := 764) (by decide +kernel)), rfl⟩
theorem tw_765 : Cond.methodLink RL 90 yX5_suns ∈ tbg := List.mem_filter.mpr ⟨List.mem_append_right _ (List.mem_of_getElem? (i := 765) (by decide +kernel)), rfl⟩
theorem tw_766 : Cond.instanceMethod yX5_suns ∈ tbg := List.mem_filter.mpr ⟨List.mem_append_right _ (List.mem_of_getElem? (i := 766) (by decide +kernel)), rfl⟩
theorem tw_767 : Cond.selects RX5 yX5_suns yX5_suns ∈ tbg := List.mem_filter.mpr ⟨List.mem_append_right _ (List.mem_of_getElem? (i := 767) (by decide +kernel)), rfl⟩
theorem tw_768 : Cond.code yX5_suns prog_7_method_52_code 4 (some FieldType.int) ∈ tbg := List.mem_filter.mpr ⟨List.mem_append_right _ (List.mem_of_getElem? (i := 768) (by decide +kernel)), rfl⟩
theorem tw_769 : Cond.methodLink RL 95 yX5_odds ∈ tbg := List.mem_filter.mpr ⟨List.mem_append_right _ (List.mem_of_getElem? (i := 769) (by decide +kernel)), rfl⟩
theorem tw_770 : Cond.instanceMethod yX5_odds ∈ tbg := List.mem_filter.mpr ⟨List.mem_append_right _ (List.mem_of_getElem? (i := 770) (by decide +kernel)), rfl⟩
theorem tw_771 : Cond.selects RX5 yX5_odds yX5_odds ∈ tbg := List.mem_filter.mpr ⟨List.mem_append_right _ (List.mem_of_getElem? (i := 771) (by decide +kernel)), rfl⟩
theorem tw_772 : Cond.code yX5_odds prog_7_method_54_code 6 (some FieldType.long) ∈ tbg := List.mem_filter.mpr ⟨List.mem_append_right _ (List.mem_of_getElem? (i := 772) (by decide +kernel)), rfl⟩
theorem tw_773 : Cond.constantLong RX5 47 (-9223372036854775808) ∈ tbg := List.mem_filter.mpr ⟨List.mem_append_right _ (List.mem_of_getElem? (i := 773) (by decide +kernel)), rfl⟩
theorem tw_774 : Cond.methodLink RX5 188 yX5_inLeastTerms ∈ tbg := List.mem_filter.mpr ⟨List.mem_append_right _ (List.mem_of_getElem? (i := 774) (by decide +kernel)), rfl⟩
theorem tw_775 : Cond.static yX5_inLeastTerms ∈ tbg := List.mem_filter.mpr ⟨List.mem_append_right _ (List.mem_of_getElem? (i := 775) (by decide +kernel)), rfl⟩
theorem tw_776 : Cond.code yX5_inLeastTerms prog_7_method_53_code 11 (some FieldType.long) ∈ tbg := List.mem_filter.mpr ⟨List.mem_append_right _ (List.mem_of_getElem? (i := 776) (by decide +kernel)), rfl⟩
theorem tw_777 : Cond.methodLink RL 99 yX5_sheet ∈ tbg := List.mem_filter.mpr ⟨List.mem_append_right _ (List.mem_of_getElem? (i := 777) (by decide +kernel)), rfl⟩
theorem tw_778 : Cond.instanceMethod yX5_sheet ∈ tbg := List.mem_filter.mpr ⟨List.mem_append_right _ (List.mem_of_getElem? (i := 778) (by decide +kernel)), rfl⟩
theorem tw_779 : Cond.selects RX5 yX5_sheet yX5_sheet ∈ tbg := List.mem_filter.mpr ⟨List.mem_append_right _ (List.mem_of_getElem? (i := 779) (by decide +kernel)), rfl⟩
theorem tw_780 : Cond.code yX5_sheet prog_7_method_55_code 5 (some FieldType.int) ∈ tbg := List.mem_filter.mpr ⟨List.mem_append_right _ (List.mem_of_getElem? (i := 780) (by decide +kernel)), rfl⟩
theorem tw_781 : Cond.methodLink RL 103 yX5_lose ∈ tbg := List.mem_filter.mpr ⟨List.mem_append_right _ (List.mem_of_getElem? (i := 781) (by decide +kernel)), rfl⟩
theorem tw_782 : Cond.instanceMethod yX5_lose ∈ tbg := List.mem_filter.mpr ⟨List.mem_append_right _ (List.mem_of_getElem? (i := 782) (by decide +kernel)), rfl⟩
theorem tw_783 : Cond.selects RX5 yX5_lose yX5_lose ∈ tbg := List.mem_filter.mpr ⟨List.mem_append_right _ (List.mem_of_getElem? (i := 783) (by decide +kernel)), rfl⟩
theorem tw_784 : Cond.code yX5_lose prog_7_method_56_code 3 (some FieldType.int) ∈ tbg := List.mem_filter.mpr ⟨List.mem_append_right _ (List.mem_of_getElem? (i := 784) (by decide +kernel)), rfl⟩
theorem tw_785 : Cond.methodLink RL 107 yX5_put ∈ tbg := List.mem_filter.mpr ⟨List.mem_append_right _ (List.mem_of_getElem? (i := 785) (by decide +kernel)), rfl⟩
theorem tw_786 : Cond.instanceMethod yX5_put ∈ tbg := List.mem_filter.mpr ⟨List.mem_append_right _ (List.mem_of_getElem? (i := 786) (by decide +kernel)), rfl⟩
theorem tw_787 : Cond.selects RX5 yX5_put yX5_put ∈ tbg := List.mem_filter.mpr ⟨List.mem_append_right _ (List.mem_of_getElem? (i := 787) (by decide +kernel)), rfl⟩
theorem tw_788 : Cond.code yX5_put prog_7_method_57_code 4 (some FieldType.int) ∈ tbg := List.mem_filter.mpr ⟨List.mem_append_right _ (List.mem_of_getElem? (i := 788) (by decide +kernel)), rfl⟩
theorem tw_789 : Cond.methodLink RL 112 yX5_cell ∈ tbg := List.mem_filter.mpr ⟨List.mem_append_right _ (List.mem_of_getElem? (i := 789) (by decide +kernel)), rfl⟩
theorem tw_790 : Cond.instanceMethod yX5_cell ∈ tbg := List.mem_filter.mpr ⟨List.mem_append_right _ (List.mem_of_getElem? (i := 790) (by decide +kernel)), rfl⟩
theorem tw_791 : Cond.selects RX5 yX5_cell yX5_cell ∈ tbg := List.mem_filter.mpr ⟨List.mem_append_right _ (List.mem_of_getElem? (i := 791) (by decide +kernel)), rfl⟩
theorem tw_792 : Cond.code yX5_cell prog_7_method_58_code 4 (some FieldType.long) ∈ tbg := List.mem_filter.mpr ⟨List.mem_append_right _ (List.mem_of_getElem? (i := 792) (by decide +kernel)), rfl⟩
theorem tw_793 : Cond.methodLink RX5 192 yX5_lost ∈ tbg := List.mem_filter.mpr ⟨List.mem_append_right _ (List.mem_of_getElem? (i := 793) (by decide +kernel)), rfl⟩
theorem tw_795 : Cond.instanceMethod yX5_lost ∈ tbg := List.mem_filter.mpr ⟨List.mem_append_right _ (List.mem_of_getElem? (i := 795) (by decide +kernel)), rfl⟩
theorem tw_796 : Cond.code yX5_lost prog_7_method_4_code 2 (some FieldType.long) ∈ tbg := List.mem_filter.mpr ⟨List.mem_append_right _ (List.mem_of_getElem? (i := 796) (by decide +kernel)), rfl⟩
theorem tw_797 : Cond.methodLink RL 116 yX5_copy ∈ tbg := List.mem_filter.mpr ⟨List.mem_append_right _ (List.mem_of_getElem? (i := 797) (by decide +kernel)), rfl⟩
theorem tw_798 : Cond.instanceMethod yX5_copy ∈ tbg := List.mem_filter.mpr ⟨List.mem_append_right _ (List.mem_of_getElem? (i := 798) (by decide +kernel)), rfl⟩
theorem tw_799 : Cond.selects RX5 yX5_copy yX5_copy ∈ tbg := List.mem_filter.mpr ⟨List.mem_append_right _ (List.mem_of_getElem? (i := 799) (by decide +kernel)), rfl⟩
theorem tw_800 : Cond.code yX5_copy prog_7_method_59_code 10 (some FieldType.int) ∈ tbg := List.mem_filter.mpr ⟨List.mem_append_right _ (List.mem_of_getElem? (i := 800) (by decide +kernel)), rfl⟩
theorem tw_801 : Cond.methodLink RL 120 yX5_tell ∈ tbg := List.mem_filter.mpr ⟨List.mem_append_right _ (List.mem_of_getElem? (i := 801) (by decide +kernel)), rfl⟩
theorem tw_802 : Cond.instanceMethod yX5_tell ∈ tbg := List.mem_filter.mpr ⟨List.mem_append_right _ (List.mem_of_getElem? (i := 802) (by decide +kernel)), rfl⟩
theorem tw_803 : Cond.selects RX5 yX5_tell yX5_tell ∈ tbg := List.mem_filter.mpr ⟨List.mem_append_right _ (List.mem_of_getElem? (i := 803) (by decide +kernel)), rfl⟩
theorem tw_804 : Cond.code yX5_tell prog_7_method_61_code 3 (some FieldType.int) ∈ tbg := List.mem_filter.mpr ⟨List.mem_append_right _ (List.mem_of_getElem? (i := 804) (by decide +kernel)), rfl⟩
theorem tw_805 : Cond.methodLink RX5 199 yX5_begins ∈ tbg := List.mem_filter.mpr ⟨List.mem_append_right _ (List.mem_of_getElem? (i := 805) (by decide +kernel)), rfl⟩
theorem tw_807 : Cond.instanceMethod yX5_begins ∈ tbg := List.mem_filter.mpr ⟨List.mem_append_right _ (List.mem_of_getElem? (i := 807) (by decide +kernel)), rfl⟩
theorem tw_808 : Cond.code yX5_begins prog_7_method_60_code 2 none ∈ tbg := List.mem_filter.mpr ⟨List.mem_append_right _ (List.mem_of_getElem? (i := 808) (by decide +kernel)), rfl⟩
theorem tw_809 : Cond.methodLink RL 124 yX5_draw ∈ tbg := List.mem_filter.mpr ⟨List.mem_append_right _ (List.mem_of_getElem? (i := 809) (by decide +kernel)), rfl⟩
theorem tw_810 : Cond.instanceMethod yX5_draw ∈ tbg := List.mem_filter.mpr ⟨List.mem_append_right _ (List.mem_of_getElem? (i := 810) (by decide +kernel)), rfl⟩
theorem tw_811 : Cond.selects RX5 yX5_draw yX5_draw ∈ tbg := List.mem_filter.mpr ⟨List.mem_append_right _ (List.mem_of_getElem? (i := 811) (by decide +kernel)), rfl⟩
theorem tw_812 : Cond.code yX5_draw prog_7_method_62_code 2 (some FieldType.int) ∈ tbg := List.mem_filter.mpr ⟨List.mem_append_right _ (List.mem_of_getElem? (i := 812) (by decide +kernel)), rfl⟩
theorem tw_813 : Cond.methodLink RL 128 yX5_as ∈ tbg := List.mem_filter.mpr ⟨List.mem_append_right _ (List.mem_of_getElem? (i := 813) (by decide +kernel)), rfl⟩
theorem tw_814 : Cond.instanceMethod yX5_as ∈ tbg := List.mem_filter.mpr ⟨List.mem_append_right _ (List.mem_of_getElem? (i := 814) (by decide +kernel)), rfl⟩
theorem tw_815 : Cond.selects RX5 yX5_as yX5_as ∈ tbg := List.mem_filter.mpr ⟨List.mem_append_right _ (List.mem_of_getElem? (i := 815) (by decide +kernel)), rfl⟩
theorem tw_816 : Cond.code yX5_as prog_7_method_63_code 3 (some FieldType.int) ∈ tbg := List.mem_filter.mpr ⟨List.mem_append_right _ (List.mem_of_getElem? (i := 816) (by decide +kernel)), rfl⟩
theorem tw_817 : Cond.methodLink RL 132 yX5_trace ∈ tbg := List.mem_filter.mpr ⟨List.mem_append_right _ (List.mem_of_getElem? (i := 817) (by decide +kernel)), rfl⟩
theorem tw_818 : Cond.instanceMethod yX5_trace ∈ tbg := List.mem_filter.mpr ⟨List.mem_append_right _ (List.mem_of_getElem? (i := 818) (by decide +kernel)), rfl⟩
theorem tw_819 : Cond.selects RX5 yX5_trace yX5_trace ∈ tbg := List.mem_filter.mpr ⟨List.mem_append_right _ (List.mem_of_getElem? (i := 819) (by decide +kernel)), rfl⟩
theorem tw_820 : Cond.code yX5_trace prog_7_method_64_code 1 (some FieldType.int) ∈ tbg := List.mem_filter.mpr ⟨List.mem_append_right _ (List.mem_of_getElem? (i := 820) (by decide +kernel)), rfl⟩
theorem tw_821 : Cond.methodLink RL 136 yX5_fault ∈ tbg := List.mem_filter.mpr ⟨List.mem_append_right _ (List.mem_of_getElem? (i := 821) (by decide +kernel)), rfl⟩
theorem tw_822 : Cond.instanceMethod yX5_fault ∈ tbg := List.mem_filter.mpr ⟨List.mem_append_right _ (List.mem_of_getElem? (i := 822) (by decide +kernel)), rfl⟩
theorem tw_823 : Cond.selects RX5 yX5_fault yX5_fault ∈ tbg := List.mem_filter.mpr ⟨List.mem_append_right _ (List.mem_of_getElem? (i := 823) (by decide +kernel)), rfl⟩
theorem tw_824 : Cond.code yX5_fault prog_7_method_65_code 1 (some FieldType.int) ∈ tbg := List.mem_filter.mpr ⟨List.mem_append_right _ (List.mem_of_getElem? (i := 824) (by decide +kernel)), rfl⟩
theorem tw_825 : Cond.methodLink RL 140 yX5_many ∈ tbg := List.mem_filter.mpr ⟨List.mem_append_right _ (List.mem_of_getElem? (i := 825) (by decide +kernel)), rfl⟩
theorem tw_826 : Cond.instanceMethod yX5_many ∈ tbg := List.mem_filter.mpr ⟨List.mem_append_right _ (List.mem_of_getElem? (i := 826) (by decide +kernel)), rfl⟩
theorem tw_827 : Cond.selects RX5 yX5_many yX5_many ∈ tbg := List.mem_filter.mpr ⟨List.mem_append_right _ (List.mem_of_getElem? (i := 827) (by decide +kernel)), rfl⟩
theorem tw_828 : Cond.code yX5_many prog_7_method_66_code 2 (some FieldType.int) ∈ tbg := List.mem_filter.mpr ⟨List.mem_append_right _ (List.mem_of_getElem? (i := 828) (by decide +kernel)), rfl⟩
def nws : List Cond := [Cond.fieldLinkNest RX4 84 "DriedMap$Flat" "kind" "[I" "DriedMap", Cond.fieldLinkNest RX4 88 "DriedMap$Flat" "wet" "[I" "DriedMap", Cond.fieldLinkNest RX3 69 "DriedMap$Flat" "wet" "[I" "DriedMap", Cond.fieldLinkNest RX4 223 "DriedMap$Flat" "wide" "I" "DriedMap", Cond.fieldLinkNest RX4 226 "DriedMap$Flat" "rows" "I" "DriedMap", Cond.fieldLinkNest RX4 78 "DriedMap$Flat" "cells" "I" "DriedMap", Cond.fieldLinkNest RX3 53 "DriedMap$Flat" "sun" "I" "DriedMap", Cond.fieldLinkNest RX4 115 "DriedMap$Flat" "sun" "I" "DriedMap", Cond.fieldLinkNest RX4 159 "DriedMap$Flat" "all" "I" "DriedMap", Cond.fieldLinkNest RX4 166 "DriedMap$Trial" "flat" "LDriedMap$Flat;" "DriedMap", Cond.fieldLinkNest RX4 75 "DriedMap$Readings" "count" "I" "DriedMap", Cond.fieldLinkNest RX4 202 "DriedMap$Sheet" "row" "[I" "DriedMap", Cond.fieldLinkNest RX4 199 "DriedMap$Sheet" "lane" "I" "DriedMap", Cond.methodLinkNest RX0 40 yX4_digitAt "DriedMap", Cond.methodLinkNest RX0 54 yX4_kindByLetter "DriedMap"]
theorem nn_0 : Cond.fieldLinkNest RX4 84 "DriedMap$Flat" "kind" "[I" "DriedMap" ∈ nws := List.mem_of_getElem? (i := 0) rfl
theorem nn_1 : Cond.fieldLinkNest RX4 88 "DriedMap$Flat" "wet" "[I" "DriedMap" ∈ nws := List.mem_of_getElem? (i := 1) rfl
theorem nn_2 : Cond.fieldLinkNest RX3 69 "DriedMap$Flat" "wet" "[I" "DriedMap" ∈ nws := List.mem_of_getElem? (i := 2) rfl
theorem nn_3 : Cond.fieldLinkNest RX4 223 "DriedMap$Flat" "wide" "I" "DriedMap" ∈ nws := List.mem_of_getElem? (i := 3) rfl
theorem nn_4 : Cond.fieldLinkNest RX4 226 "DriedMap$Flat" "rows" "I" "DriedMap" ∈ nws := List.mem_of_getElem? (i := 4) rfl
theorem nn_5 : Cond.fieldLinkNest RX4 78 "DriedMap$Flat" "cells" "I" "DriedMap" ∈ nws := List.mem_of_getElem? (i := 5) rfl
theorem nn_6 : Cond.fieldLinkNest RX3 53 "DriedMap$Flat" "sun" "I" "DriedMap" ∈ nws := List.mem_of_getElem? (i := 6) rfl
theorem nn_7 : Cond.fieldLinkNest RX4 115 "DriedMap$Flat" "sun" "I" "DriedMap" ∈ nws := List.mem_of_getElem? (i := 7) rfl
theorem nn_8 : Cond.fieldLinkNest RX4 159 "DriedMap$Flat" "all" "I" "DriedMap" ∈ nws := List.mem_of_getElem? (i := 8) rfl
theorem nn_9 : Cond.fieldLinkNest RX4 166 "DriedMap$Trial" "flat" "LDriedMap$Flat;" "DriedMap" ∈ nws := List.mem_of_getElem? (i := 9) rfl
theorem nn_10 : Cond.fieldLinkNest RX4 75 "DriedMap$Readings" "count" "I" "DriedMap" ∈ nws := List.mem_of_getElem? (i := 10) rfl
theorem nn_11 : Cond.fieldLinkNest RX4 202 "DriedMap$Sheet" "row" "[I" "DriedMap" ∈ nws := List.mem_of_getElem? (i := 11) rfl
theorem nn_12 : Cond.fieldLinkNest RX4 199 "DriedMap$Sheet" "lane" "I" "DriedMap" ∈ nws := List.mem_of_getElem? (i := 12) rfl
theorem nn_13 : Cond.methodLinkNest RX0 40 yX4_digitAt "DriedMap" ∈ nws := List.mem_of_getElem? (i := 13) rfl
theorem nn_14 : Cond.methodLinkNest RX0 54 yX4_kindByLetter "DriedMap" ∈ nws := List.mem_of_getElem? (i := 14) rfl
theorem nws_in : ∀ w ∈ nws, w ∈ lw_tbl := fun w h => by
  simp only [nws, List.mem_cons, List.not_mem_nil, or_false] at h
  rcases h with rfl | rfl | rfl | rfl | rfl | rfl | rfl | rfl | rfl | rfl | rfl | rfl | rfl | rfl | rfl
  · exact tw_25
  · exact tw_27
  · exact tw_28
  · exact tw_30
  · exact tw_32
  · exact tw_34
  · exact tw_36
  · exact tw_37
  · exact tw_39
  · exact tw_71
  · exact tw_94
  · exact tw_112
  · exact tw_114
  · exact tw_201
  · exact tw_210
end
section
theorem dX0_init_0 : decode cX0_init 0 = .ok (.aload_n 0, 1) := by decide +kernel
theorem dX0_init_1 : decode cX0_init 1 = .ok (.invokespecial 3, 3) := by decide +kernel
theorem dX0_init_4 : decode cX0_init 4 = .ok (.aload_n 0, 1) := by decide +kernel
theorem dX0_init_5 : decode cX0_init 5 = .ok (.bipush 12, 2) := by decide +kernel
theorem dX0_init_7 : decode cX0_init 7 = .ok (.newarray .int, 2) := by decide +kernel
theorem dX0_init_9 : decode cX0_init 9 = .ok (.putfield 9, 3) := by decide +kernel
theorem dX0_init_12 : decode cX0_init 12 = .ok (.aload_n 0, 1) := by decide +kernel
theorem dX0_init_13 : decode cX0_init 13 = .ok (.bipush 12, 2) := by decide +kernel
theorem dX0_init_15 : decode cX0_init 15 = .ok (.newarray .int, 2) := by decide +kernel
theorem dX0_init_17 : decode cX0_init 17 = .ok (.putfield 15, 3) := by decide +kernel
theorem dX0_init_20 : decode cX0_init 20 = .ok (.aload_n 0, 1) := by decide +kernel
theorem dX0_init_21 : decode cX0_init 21 = .ok (.iconst 0, 1) := by decide +kernel
theorem dX0_init_22 : decode cX0_init 22 = .ok (.putfield 18, 3) := by decide +kernel
theorem dX0_init_25 : decode cX0_init 25 = .ok (.aload_n 0, 1) := by decide +kernel
theorem dX0_init_26 : decode cX0_init 26 = .ok (.iconst 0, 1) := by decide +kernel
theorem dX0_init_27 : decode cX0_init 27 = .ok (.putfield 22, 3) := by decide +kernel
theorem dX0_init_30 : decode cX0_init 30 = .ok (.aload_n 0, 1) := by decide +kernel
theorem dX0_init_31 : decode cX0_init 31 = .ok (.iconst 0, 1) := by decide +kernel
theorem dX0_init_32 : decode cX0_init 32 = .ok (.putfield 25, 3) := by decide +kernel
theorem dX0_init_35 : decode cX0_init 35 = .ok (.aload_n 0, 1) := by decide +kernel
theorem dX0_init_36 : decode cX0_init 36 = .ok (.iconst 0, 1) := by decide +kernel
theorem dX0_init_37 : decode cX0_init 37 = .ok (.putfield 28, 3) := by decide +kernel
theorem dX0_init_40 : decode cX0_init 40 = .ok (.aload_n 0, 1) := by decide +kernel
theorem dX0_init_41 : decode cX0_init 41 = .ok (.iconst 0, 1) := by decide +kernel
theorem dX0_init_42 : decode cX0_init 42 = .ok (.putfield 31, 3) := by decide +kernel
theorem dX0_init_45 : decode cX0_init 45 = .ok (.aload_n 0, 1) := by decide +kernel
theorem dX0_init_46 : decode cX0_init 46 = .ok (.iconst 0, 1) := by decide +kernel
theorem dX0_init_47 : decode cX0_init 47 = .ok (.putfield 34, 3) := by decide +kernel
theorem dX0_init_50 : decode cX0_init 50 = .ok (.aload_n 0, 1) := by decide +kernel
theorem dX0_init_51 : decode cX0_init 51 = .ok (.iconst 0, 1) := by decide +kernel
theorem dX0_init_52 : decode cX0_init 52 = .ok (.putfield 37, 3) := by decide +kernel
theorem dX0_init_55 : decode cX0_init 55 = .ok (.return_, 1) := by decide +kernel
theorem dX0_becomeText_0 : decode cX0_becomeText 0 = .ok (.aload_n 0, 1) := by decide +kernel
theorem dX0_becomeText_1 : decode cX0_becomeText 1 = .ok (.aload_n 1, 1) := by decide +kernel
theorem dX0_becomeText_2 : decode cX0_becomeText 2 = .ok (.iload_n 2, 1) := by decide +kernel
theorem dX0_becomeText_3 : decode cX0_becomeText 3 = .ok (.iconst 1, 1) := by decide +kernel
theorem dX0_becomeText_4 : decode cX0_becomeText 4 = .ok (.iadd, 1) := by decide +kernel
theorem dX0_becomeText_5 : decode cX0_becomeText 5 = .ok (.invokestatic 40, 3) := by decide +kernel
theorem dX0_becomeText_8 : decode cX0_becomeText 8 = .ok (.putfield 28, 3) := by decide +kernel
theorem dX0_becomeText_11 : decode cX0_becomeText 11 = .ok (.aload_n 0, 1) := by decide +kernel
theorem dX0_becomeText_12 : decode cX0_becomeText 12 = .ok (.aload_n 1, 1) := by decide +kernel
theorem dX0_becomeText_13 : decode cX0_becomeText 13 = .ok (.iload_n 2, 1) := by decide +kernel
theorem dX0_becomeText_14 : decode cX0_becomeText 14 = .ok (.iconst 2, 1) := by decide +kernel
theorem dX0_becomeText_15 : decode cX0_becomeText 15 = .ok (.iadd, 1) := by decide +kernel
theorem dX0_becomeText_16 : decode cX0_becomeText 16 = .ok (.invokestatic 40, 3) := by decide +kernel
theorem dX0_becomeText_19 : decode cX0_becomeText 19 = .ok (.aload_n 1, 1) := by decide +kernel
theorem dX0_becomeText_20 : decode cX0_becomeText 20 = .ok (.iload_n 2, 1) := by decide +kernel
theorem dX0_becomeText_21 : decode cX0_becomeText 21 = .ok (.iconst 3, 1) := by decide +kernel
theorem dX0_becomeText_22 : decode cX0_becomeText 22 = .ok (.iadd, 1) := by decide +kernel
theorem dX0_becomeText_23 : decode cX0_becomeText 23 = .ok (.invokestatic 40, 3) := by decide +kernel
theorem dX0_becomeText_26 : decode cX0_becomeText 26 = .ok (.invokevirtual 44, 3) := by decide +kernel
theorem dX0_becomeText_29 : decode cX0_becomeText 29 = .ok (.iconst 0, 1) := by decide +kernel
theorem dX0_becomeText_30 : decode cX0_becomeText 30 = .ok (.istore_n 3, 1) := by decide +kernel
theorem dX0_becomeText_31 : decode cX0_becomeText 31 = .ok (.iload_n 3, 1) := by decide +kernel
theorem dX0_becomeText_32 : decode cX0_becomeText 32 = .ok (.aload_n 0, 1) := by decide +kernel
theorem dX0_becomeText_33 : decode cX0_becomeText 33 = .ok (.getfield 25, 3) := by decide +kernel
theorem dX0_becomeText_36 : decode cX0_becomeText 36 = .ok (.if_icmp .ge 48, 3) := by decide +kernel
theorem dX0_becomeText_39 : decode cX0_becomeText 39 = .ok (.aload_n 0, 1) := by decide +kernel
theorem dX0_becomeText_40 : decode cX0_becomeText 40 = .ok (.getfield 9, 3) := by decide +kernel
theorem dX0_becomeText_43 : decode cX0_becomeText 43 = .ok (.iload_n 3, 1) := by decide +kernel
theorem dX0_becomeText_44 : decode cX0_becomeText 44 = .ok (.aload_n 1, 1) := by decide +kernel
theorem dX0_becomeText_45 : decode cX0_becomeText 45 = .ok (.iload_n 2, 1) := by decide +kernel
theorem dX0_becomeText_46 : decode cX0_becomeText 46 = .ok (.iconst 4, 1) := by decide +kernel
theorem dX0_becomeText_47 : decode cX0_becomeText 47 = .ok (.iadd, 1) := by decide +kernel
theorem dX0_becomeText_48 : decode cX0_becomeText 48 = .ok (.iconst 2, 1) := by decide +kernel
theorem dX0_becomeText_49 : decode cX0_becomeText 49 = .ok (.iload_n 3, 1) := by decide +kernel
theorem dX0_becomeText_50 : decode cX0_becomeText 50 = .ok (.imul, 1) := by decide +kernel
theorem dX0_becomeText_51 : decode cX0_becomeText 51 = .ok (.iadd, 1) := by decide +kernel
theorem dX0_becomeText_52 : decode cX0_becomeText 52 = .ok (.invokevirtual 48, 3) := by decide +kernel
theorem dX0_becomeText_55 : decode cX0_becomeText 55 = .ok (.invokestatic 54, 3) := by decide +kernel
theorem dX0_becomeText_58 : decode cX0_becomeText 58 = .ok (.iastore, 1) := by decide +kernel
theorem dX0_becomeText_59 : decode cX0_becomeText 59 = .ok (.aload_n 0, 1) := by decide +kernel
theorem dX0_becomeText_60 : decode cX0_becomeText 60 = .ok (.getfield 15, 3) := by decide +kernel
theorem dX0_becomeText_63 : decode cX0_becomeText 63 = .ok (.iload_n 3, 1) := by decide +kernel
theorem dX0_becomeText_64 : decode cX0_becomeText 64 = .ok (.aload_n 1, 1) := by decide +kernel
theorem dX0_becomeText_65 : decode cX0_becomeText 65 = .ok (.iload_n 2, 1) := by decide +kernel
theorem dX0_becomeText_66 : decode cX0_becomeText 66 = .ok (.iconst 4, 1) := by decide +kernel
theorem dX0_becomeText_67 : decode cX0_becomeText 67 = .ok (.iadd, 1) := by decide +kernel
theorem dX0_becomeText_68 : decode cX0_becomeText 68 = .ok (.iconst 2, 1) := by decide +kernel
theorem dX0_becomeText_69 : decode cX0_becomeText 69 = .ok (.iload_n 3, 1) := by decide +kernel
theorem dX0_becomeText_70 : decode cX0_becomeText 70 = .ok (.imul, 1) := by decide +kernel
theorem dX0_becomeText_71 : decode cX0_becomeText 71 = .ok (.iadd, 1) := by decide +kernel
theorem dX0_becomeText_72 : decode cX0_becomeText 72 = .ok (.iconst 1, 1) := by decide +kernel
theorem dX0_becomeText_73 : decode cX0_becomeText 73 = .ok (.iadd, 1) := by decide +kernel
theorem dX0_becomeText_74 : decode cX0_becomeText 74 = .ok (.invokestatic 40, 3) := by decide +kernel
theorem dX0_becomeText_77 : decode cX0_becomeText 77 = .ok (.iastore, 1) := by decide +kernel
theorem dX0_becomeText_78 : decode cX0_becomeText 78 = .ok (.iinc 3 1, 3) := by decide +kernel
theorem dX0_becomeText_81 : decode cX0_becomeText 81 = .ok (.goto (-50), 3) := by decide +kernel
theorem dX0_becomeText_84 : decode cX0_becomeText 84 = .ok (.return_, 1) := by decide +kernel
theorem dX0_setShape_0 : decode cX0_setShape 0 = .ok (.aload_n 0, 1) := by decide +kernel
theorem dX0_setShape_1 : decode cX0_setShape 1 = .ok (.iload_n 1, 1) := by decide +kernel
theorem dX0_setShape_2 : decode cX0_setShape 2 = .ok (.putfield 18, 3) := by decide +kernel
theorem dX0_setShape_5 : decode cX0_setShape 5 = .ok (.aload_n 0, 1) := by decide +kernel
theorem dX0_setShape_6 : decode cX0_setShape 6 = .ok (.iload_n 2, 1) := by decide +kernel
theorem dX0_setShape_7 : decode cX0_setShape 7 = .ok (.putfield 22, 3) := by decide +kernel
theorem dX0_setShape_10 : decode cX0_setShape 10 = .ok (.aload_n 0, 1) := by decide +kernel
theorem dX0_setShape_11 : decode cX0_setShape 11 = .ok (.iload_n 1, 1) := by decide +kernel
theorem dX0_setShape_12 : decode cX0_setShape 12 = .ok (.iload_n 2, 1) := by decide +kernel
theorem dX0_setShape_13 : decode cX0_setShape 13 = .ok (.imul, 1) := by decide +kernel
theorem dX0_setShape_14 : decode cX0_setShape 14 = .ok (.bipush 12, 2) := by decide +kernel
theorem dX0_setShape_16 : decode cX0_setShape 16 = .ok (.invokestatic 57, 3) := by decide +kernel
theorem dX0_setShape_19 : decode cX0_setShape 19 = .ok (.putfield 25, 3) := by decide +kernel
theorem dX0_setShape_22 : decode cX0_setShape 22 = .ok (.aload_n 0, 1) := by decide +kernel
theorem dX0_setShape_23 : decode cX0_setShape 23 = .ok (.iconst 1, 1) := by decide +kernel
theorem dX0_setShape_24 : decode cX0_setShape 24 = .ok (.aload_n 0, 1) := by decide +kernel
theorem dX0_setShape_25 : decode cX0_setShape 25 = .ok (.getfield 25, 3) := by decide +kernel
theorem dX0_setShape_28 : decode cX0_setShape 28 = .ok (.ishl, 1) := by decide +kernel
theorem dX0_setShape_29 : decode cX0_setShape 29 = .ok (.iconst 1, 1) := by decide +kernel
theorem dX0_setShape_30 : decode cX0_setShape 30 = .ok (.isub, 1) := by decide +kernel
theorem dX0_setShape_31 : decode cX0_setShape 31 = .ok (.putfield 31, 3) := by decide +kernel
theorem dX0_setShape_34 : decode cX0_setShape 34 = .ok (.aload_n 0, 1) := by decide +kernel
theorem dX0_setShape_35 : decode cX0_setShape 35 = .ok (.iconst 0, 1) := by decide +kernel
theorem dX0_setShape_36 : decode cX0_setShape 36 = .ok (.putfield 34, 3) := by decide +kernel
theorem dX0_setShape_39 : decode cX0_setShape 39 = .ok (.iconst 0, 1) := by decide +kernel
theorem dX0_setShape_40 : decode cX0_setShape 40 = .ok (.istore_n 3, 1) := by decide +kernel
theorem dX0_setShape_41 : decode cX0_setShape 41 = .ok (.iload_n 3, 1) := by decide +kernel
theorem dX0_setShape_42 : decode cX0_setShape 42 = .ok (.aload_n 0, 1) := by decide +kernel
theorem dX0_setShape_43 : decode cX0_setShape 43 = .ok (.getfield 22, 3) := by decide +kernel
theorem dX0_setShape_46 : decode cX0_setShape 46 = .ok (.if_icmp .ge 26, 3) := by decide +kernel
theorem dX0_setShape_49 : decode cX0_setShape 49 = .ok (.aload_n 0, 1) := by decide +kernel
theorem dX0_setShape_50 : decode cX0_setShape 50 = .ok (.dup, 1) := by decide +kernel
theorem dX0_setShape_51 : decode cX0_setShape 51 = .ok (.getfield 34, 3) := by decide +kernel
theorem dX0_setShape_54 : decode cX0_setShape 54 = .ok (.iconst 1, 1) := by decide +kernel
theorem dX0_setShape_55 : decode cX0_setShape 55 = .ok (.iload_n 3, 1) := by decide +kernel
theorem dX0_setShape_56 : decode cX0_setShape 56 = .ok (.aload_n 0, 1) := by decide +kernel
theorem dX0_setShape_57 : decode cX0_setShape 57 = .ok (.getfield 18, 3) := by decide +kernel
theorem dX0_setShape_60 : decode cX0_setShape 60 = .ok (.imul, 1) := by decide +kernel
theorem dX0_setShape_61 : decode cX0_setShape 61 = .ok (.ishl, 1) := by decide +kernel
theorem dX0_setShape_62 : decode cX0_setShape 62 = .ok (.ior, 1) := by decide +kernel
theorem dX0_setShape_63 : decode cX0_setShape 63 = .ok (.putfield 34, 3) := by decide +kernel
theorem dX0_setShape_66 : decode cX0_setShape 66 = .ok (.iinc 3 1, 3) := by decide +kernel
theorem dX0_setShape_69 : decode cX0_setShape 69 = .ok (.goto (-28), 3) := by decide +kernel
theorem dX0_setShape_72 : decode cX0_setShape 72 = .ok (.aload_n 0, 1) := by decide +kernel
theorem dX0_setShape_73 : decode cX0_setShape 73 = .ok (.aload_n 0, 1) := by decide +kernel
theorem dX0_setShape_74 : decode cX0_setShape 74 = .ok (.getfield 34, 3) := by decide +kernel
theorem dX0_setShape_77 : decode cX0_setShape 77 = .ok (.aload_n 0, 1) := by decide +kernel
theorem dX0_setShape_78 : decode cX0_setShape 78 = .ok (.getfield 18, 3) := by decide +kernel
theorem dX0_setShape_81 : decode cX0_setShape 81 = .ok (.iconst 1, 1) := by decide +kernel
theorem dX0_setShape_82 : decode cX0_setShape 82 = .ok (.isub, 1) := by decide +kernel
theorem dX0_setShape_83 : decode cX0_setShape 83 = .ok (.ishl, 1) := by decide +kernel
theorem dX0_setShape_84 : decode cX0_setShape 84 = .ok (.putfield 37, 3) := by decide +kernel
theorem dX0_setShape_87 : decode cX0_setShape 87 = .ok (.return_, 1) := by decide +kernel
theorem dX0_becomeLike_0 : decode cX0_becomeLike 0 = .ok (.aload_n 0, 1) := by decide +kernel
theorem dX0_becomeLike_1 : decode cX0_becomeLike 1 = .ok (.aload_n 1, 1) := by decide +kernel
theorem dX0_becomeLike_2 : decode cX0_becomeLike 2 = .ok (.getfield 18, 3) := by decide +kernel
theorem dX0_becomeLike_5 : decode cX0_becomeLike 5 = .ok (.putfield 18, 3) := by decide +kernel
theorem dX0_becomeLike_8 : decode cX0_becomeLike 8 = .ok (.aload_n 0, 1) := by decide +kernel
theorem dX0_becomeLike_9 : decode cX0_becomeLike 9 = .ok (.aload_n 1, 1) := by decide +kernel
theorem dX0_becomeLike_10 : decode cX0_becomeLike 10 = .ok (.getfield 22, 3) := by decide +kernel
theorem dX0_becomeLike_13 : decode cX0_becomeLike 13 = .ok (.putfield 22, 3) := by decide +kernel
theorem dX0_becomeLike_16 : decode cX0_becomeLike 16 = .ok (.aload_n 0, 1) := by decide +kernel
theorem dX0_becomeLike_17 : decode cX0_becomeLike 17 = .ok (.aload_n 1, 1) := by decide +kernel
theorem dX0_becomeLike_18 : decode cX0_becomeLike 18 = .ok (.getfield 25, 3) := by decide +kernel
theorem dX0_becomeLike_21 : decode cX0_becomeLike 21 = .ok (.putfield 25, 3) := by decide +kernel
theorem dX0_becomeLike_24 : decode cX0_becomeLike 24 = .ok (.aload_n 0, 1) := by decide +kernel
theorem dX0_becomeLike_25 : decode cX0_becomeLike 25 = .ok (.aload_n 1, 1) := by decide +kernel
theorem dX0_becomeLike_26 : decode cX0_becomeLike 26 = .ok (.getfield 28, 3) := by decide +kernel
theorem dX0_becomeLike_29 : decode cX0_becomeLike 29 = .ok (.putfield 28, 3) := by decide +kernel
theorem dX0_becomeLike_32 : decode cX0_becomeLike 32 = .ok (.aload_n 0, 1) := by decide +kernel
theorem dX0_becomeLike_33 : decode cX0_becomeLike 33 = .ok (.aload_n 1, 1) := by decide +kernel
theorem dX0_becomeLike_34 : decode cX0_becomeLike 34 = .ok (.getfield 31, 3) := by decide +kernel
theorem dX0_becomeLike_37 : decode cX0_becomeLike 37 = .ok (.putfield 31, 3) := by decide +kernel
theorem dX0_becomeLike_40 : decode cX0_becomeLike 40 = .ok (.aload_n 0, 1) := by decide +kernel
theorem dX0_becomeLike_41 : decode cX0_becomeLike 41 = .ok (.aload_n 1, 1) := by decide +kernel
theorem dX0_becomeLike_42 : decode cX0_becomeLike 42 = .ok (.getfield 34, 3) := by decide +kernel
theorem dX0_becomeLike_45 : decode cX0_becomeLike 45 = .ok (.putfield 34, 3) := by decide +kernel
theorem dX0_becomeLike_48 : decode cX0_becomeLike 48 = .ok (.aload_n 0, 1) := by decide +kernel
theorem dX0_becomeLike_49 : decode cX0_becomeLike 49 = .ok (.aload_n 1, 1) := by decide +kernel
theorem dX0_becomeLike_50 : decode cX0_becomeLike 50 = .ok (.getfield 37, 3) := by decide +kernel
theorem dX0_becomeLike_53 : decode cX0_becomeLike 53 = .ok (.putfield 37, 3) := by decide +kernel
theorem dX0_becomeLike_56 : decode cX0_becomeLike 56 = .ok (.iconst 0, 1) := by decide +kernel
theorem dX0_becomeLike_57 : decode cX0_becomeLike 57 = .ok (.istore_n 2, 1) := by decide +kernel
theorem dX0_becomeLike_58 : decode cX0_becomeLike 58 = .ok (.iload_n 2, 1) := by decide +kernel
theorem dX0_becomeLike_59 : decode cX0_becomeLike 59 = .ok (.aload_n 0, 1) := by decide +kernel
theorem dX0_becomeLike_60 : decode cX0_becomeLike 60 = .ok (.getfield 25, 3) := by decide +kernel
theorem dX0_becomeLike_63 : decode cX0_becomeLike 63 = .ok (.if_icmp .ge 33, 3) := by decide +kernel
theorem dX0_becomeLike_66 : decode cX0_becomeLike 66 = .ok (.aload_n 0, 1) := by decide +kernel
theorem dX0_becomeLike_67 : decode cX0_becomeLike 67 = .ok (.getfield 9, 3) := by decide +kernel
theorem dX0_becomeLike_70 : decode cX0_becomeLike 70 = .ok (.iload_n 2, 1) := by decide +kernel
theorem dX0_becomeLike_71 : decode cX0_becomeLike 71 = .ok (.aload_n 1, 1) := by decide +kernel
theorem dX0_becomeLike_72 : decode cX0_becomeLike 72 = .ok (.getfield 9, 3) := by decide +kernel
theorem dX0_becomeLike_75 : decode cX0_becomeLike 75 = .ok (.iload_n 2, 1) := by decide +kernel
theorem dX0_becomeLike_76 : decode cX0_becomeLike 76 = .ok (.iaload, 1) := by decide +kernel
theorem dX0_becomeLike_77 : decode cX0_becomeLike 77 = .ok (.iastore, 1) := by decide +kernel
theorem dX0_becomeLike_78 : decode cX0_becomeLike 78 = .ok (.aload_n 0, 1) := by decide +kernel
theorem dX0_becomeLike_79 : decode cX0_becomeLike 79 = .ok (.getfield 15, 3) := by decide +kernel
theorem dX0_becomeLike_82 : decode cX0_becomeLike 82 = .ok (.iload_n 2, 1) := by decide +kernel
theorem dX0_becomeLike_83 : decode cX0_becomeLike 83 = .ok (.aload_n 1, 1) := by decide +kernel
theorem dX0_becomeLike_84 : decode cX0_becomeLike 84 = .ok (.getfield 15, 3) := by decide +kernel
theorem dX0_becomeLike_87 : decode cX0_becomeLike 87 = .ok (.iload_n 2, 1) := by decide +kernel
theorem dX0_becomeLike_88 : decode cX0_becomeLike 88 = .ok (.iaload, 1) := by decide +kernel
theorem dX0_becomeLike_89 : decode cX0_becomeLike 89 = .ok (.iastore, 1) := by decide +kernel
theorem dX0_becomeLike_90 : decode cX0_becomeLike 90 = .ok (.iinc 2 1, 3) := by decide +kernel
theorem dX0_becomeLike_93 : decode cX0_becomeLike 93 = .ok (.goto (-35), 3) := by decide +kernel
theorem dX0_becomeLike_96 : decode cX0_becomeLike 96 = .ok (.return_, 1) := by decide +kernel
theorem dX0_isThere_0 : decode cX0_isThere 0 = .ok (.aload_n 0, 1) := by decide +kernel
theorem dX0_isThere_1 : decode cX0_isThere 1 = .ok (.getfield 25, 3) := by decide +kernel
theorem dX0_isThere_4 : decode cX0_isThere 4 = .ok (.ifCond .le 7, 3) := by decide +kernel
theorem dX0_isThere_7 : decode cX0_isThere 7 = .ok (.iconst 1, 1) := by decide +kernel
theorem dX0_isThere_8 : decode cX0_isThere 8 = .ok (.goto 4, 3) := by decide +kernel
theorem dX0_isThere_11 : decode cX0_isThere 11 = .ok (.iconst 0, 1) := by decide +kernel
theorem dX0_isThere_12 : decode cX0_isThere 12 = .ok (.ireturn, 1) := by decide +kernel
theorem dX0_isCell_0 : decode cX0_isCell 0 = .ok (.iload_n 1, 1) := by decide +kernel
theorem dX0_isCell_1 : decode cX0_isCell 1 = .ok (.ifCond .lt 15, 3) := by decide +kernel
theorem dX0_isCell_4 : decode cX0_isCell 4 = .ok (.iload_n 1, 1) := by decide +kernel
theorem dX0_isCell_5 : decode cX0_isCell 5 = .ok (.aload_n 0, 1) := by decide +kernel
theorem dX0_isCell_6 : decode cX0_isCell 6 = .ok (.getfield 25, 3) := by decide +kernel
theorem dX0_isCell_9 : decode cX0_isCell 9 = .ok (.if_icmp .ge 7, 3) := by decide +kernel
theorem dX0_isCell_12 : decode cX0_isCell 12 = .ok (.iconst 1, 1) := by decide +kernel
theorem dX0_isCell_13 : decode cX0_isCell 13 = .ok (.goto 4, 3) := by decide +kernel
theorem dX0_isCell_16 : decode cX0_isCell 16 = .ok (.iconst 0, 1) := by decide +kernel
theorem dX0_isCell_17 : decode cX0_isCell 17 = .ok (.ireturn, 1) := by decide +kernel
theorem dX0_losesOf_0 : decode cX0_losesOf 0 = .ok (.aload_n 0, 1) := by decide +kernel
theorem dX0_losesOf_1 : decode cX0_losesOf 1 = .ok (.getfield 9, 3) := by decide +kernel
theorem dX0_losesOf_4 : decode cX0_losesOf 4 = .ok (.iload_n 1, 1) := by decide +kernel
theorem dX0_losesOf_5 : decode cX0_losesOf 5 = .ok (.iaload, 1) := by decide +kernel
theorem dX0_losesOf_6 : decode cX0_losesOf 6 = .ok (.lookupswitch 40 #[(1, 26), (2, 33)], 26) := by decide +kernel
theorem dX0_losesOf_32 : decode cX0_losesOf 32 = .ok (.aload_n 0, 1) := by decide +kernel
theorem dX0_losesOf_33 : decode cX0_losesOf 33 = .ok (.getfield 28, 3) := by decide +kernel
theorem dX0_losesOf_36 : decode cX0_losesOf 36 = .ok (.iconst 1, 1) := by decide +kernel
theorem dX0_losesOf_37 : decode cX0_losesOf 37 = .ok (.iadd, 1) := by decide +kernel
theorem dX0_losesOf_38 : decode cX0_losesOf 38 = .ok (.ireturn, 1) := by decide +kernel
theorem dX0_losesOf_39 : decode cX0_losesOf 39 = .ok (.aload_n 0, 1) := by decide +kernel
theorem dX0_losesOf_40 : decode cX0_losesOf 40 = .ok (.getfield 28, 3) := by decide +kernel
theorem dX0_losesOf_43 : decode cX0_losesOf 43 = .ok (.iconst 2, 1) := by decide +kernel
theorem dX0_losesOf_44 : decode cX0_losesOf 44 = .ok (.idiv, 1) := by decide +kernel
theorem dX0_losesOf_45 : decode cX0_losesOf 45 = .ok (.ireturn, 1) := by decide +kernel
theorem dX0_losesOf_46 : decode cX0_losesOf 46 = .ok (.aload_n 0, 1) := by decide +kernel
theorem dX0_losesOf_47 : decode cX0_losesOf 47 = .ok (.getfield 28, 3) := by decide +kernel
theorem dX0_losesOf_50 : decode cX0_losesOf 50 = .ok (.ireturn, 1) := by decide +kernel
theorem dX0_passHours_0 : decode cX0_passHours 0 = .ok (.iconst 0, 1) := by decide +kernel
theorem dX0_passHours_1 : decode cX0_passHours 1 = .ok (.istore_n 2, 1) := by decide +kernel
theorem dX0_passHours_2 : decode cX0_passHours 2 = .ok (.iload_n 2, 1) := by decide +kernel
theorem dX0_passHours_3 : decode cX0_passHours 3 = .ok (.aload_n 0, 1) := by decide +kernel
theorem dX0_passHours_4 : decode cX0_passHours 4 = .ok (.getfield 25, 3) := by decide +kernel
theorem dX0_passHours_7 : decode cX0_passHours 7 = .ok (.if_icmp .ge 33, 3) := by decide +kernel
theorem dX0_passHours_10 : decode cX0_passHours 10 = .ok (.aload_n 0, 1) := by decide +kernel
theorem dX0_passHours_11 : decode cX0_passHours 11 = .ok (.getfield 15, 3) := by decide +kernel
theorem dX0_passHours_14 : decode cX0_passHours 14 = .ok (.iload_n 2, 1) := by decide +kernel
theorem dX0_passHours_15 : decode cX0_passHours 15 = .ok (.iconst 0, 1) := by decide +kernel
theorem dX0_passHours_16 : decode cX0_passHours 16 = .ok (.aload_n 0, 1) := by decide +kernel
theorem dX0_passHours_17 : decode cX0_passHours 17 = .ok (.getfield 15, 3) := by decide +kernel
theorem dX0_passHours_20 : decode cX0_passHours 20 = .ok (.iload_n 2, 1) := by decide +kernel
theorem dX0_passHours_21 : decode cX0_passHours 21 = .ok (.iaload, 1) := by decide +kernel
theorem dX0_passHours_22 : decode cX0_passHours 22 = .ok (.iload_n 1, 1) := by decide +kernel
theorem dX0_passHours_23 : decode cX0_passHours 23 = .ok (.aload_n 0, 1) := by decide +kernel
theorem dX0_passHours_24 : decode cX0_passHours 24 = .ok (.iload_n 2, 1) := by decide +kernel
theorem dX0_passHours_25 : decode cX0_passHours 25 = .ok (.invokevirtual 63, 3) := by decide +kernel
theorem dX0_passHours_28 : decode cX0_passHours 28 = .ok (.imul, 1) := by decide +kernel
theorem dX0_passHours_29 : decode cX0_passHours 29 = .ok (.isub, 1) := by decide +kernel
theorem dX0_passHours_30 : decode cX0_passHours 30 = .ok (.invokestatic 66, 3) := by decide +kernel
theorem dX0_passHours_33 : decode cX0_passHours 33 = .ok (.iastore, 1) := by decide +kernel
theorem dX0_passHours_34 : decode cX0_passHours 34 = .ok (.iinc 2 1, 3) := by decide +kernel
theorem dX0_passHours_37 : decode cX0_passHours 37 = .ok (.goto (-35), 3) := by decide +kernel
theorem dX0_passHours_40 : decode cX0_passHours 40 = .ok (.return_, 1) := by decide +kernel
theorem dX0_pourOn_0 : decode cX0_pourOn 0 = .ok (.aload_n 0, 1) := by decide +kernel
theorem dX0_pourOn_1 : decode cX0_pourOn 1 = .ok (.iload_n 1, 1) := by decide +kernel
theorem dX0_pourOn_2 : decode cX0_pourOn 2 = .ok (.invokevirtual 69, 3) := by decide +kernel
theorem dX0_pourOn_5 : decode cX0_pourOn 5 = .ok (.ifCond .eq 12, 3) := by decide +kernel
theorem dX0_pourOn_8 : decode cX0_pourOn 8 = .ok (.aload_n 0, 1) := by decide +kernel
theorem dX0_pourOn_9 : decode cX0_pourOn 9 = .ok (.getfield 15, 3) := by decide +kernel
theorem dX0_pourOn_12 : decode cX0_pourOn 12 = .ok (.iload_n 1, 1) := by decide +kernel
theorem dX0_pourOn_13 : decode cX0_pourOn 13 = .ok (.iaload, 1) := by decide +kernel
theorem dX0_pourOn_14 : decode cX0_pourOn 14 = .ok (.ifCond .ne 5, 3) := by decide +kernel
theorem dX0_pourOn_17 : decode cX0_pourOn 17 = .ok (.iconst 0, 1) := by decide +kernel
theorem dX0_pourOn_18 : decode cX0_pourOn 18 = .ok (.ireturn, 1) := by decide +kernel
theorem dX0_pourOn_19 : decode cX0_pourOn 19 = .ok (.aload_n 0, 1) := by decide +kernel
theorem dX0_pourOn_20 : decode cX0_pourOn 20 = .ok (.getfield 15, 3) := by decide +kernel
theorem dX0_pourOn_23 : decode cX0_pourOn 23 = .ok (.iload_n 1, 1) := by decide +kernel
theorem dX0_pourOn_24 : decode cX0_pourOn 24 = .ok (.bipush 9, 2) := by decide +kernel
theorem dX0_pourOn_26 : decode cX0_pourOn 26 = .ok (.aload_n 0, 1) := by decide +kernel
theorem dX0_pourOn_27 : decode cX0_pourOn 27 = .ok (.getfield 15, 3) := by decide +kernel
theorem dX0_pourOn_30 : decode cX0_pourOn 30 = .ok (.iload_n 1, 1) := by decide +kernel
theorem dX0_pourOn_31 : decode cX0_pourOn 31 = .ok (.iaload, 1) := by decide +kernel
theorem dX0_pourOn_32 : decode cX0_pourOn 32 = .ok (.iload_n 2, 1) := by decide +kernel
theorem dX0_pourOn_33 : decode cX0_pourOn 33 = .ok (.iadd, 1) := by decide +kernel
theorem dX0_pourOn_34 : decode cX0_pourOn 34 = .ok (.invokestatic 57, 3) := by decide +kernel
theorem dX0_pourOn_37 : decode cX0_pourOn 37 = .ok (.iastore, 1) := by decide +kernel
theorem dX0_pourOn_38 : decode cX0_pourOn 38 = .ok (.iconst 1, 1) := by decide +kernel
theorem dX0_pourOn_39 : decode cX0_pourOn 39 = .ok (.ireturn, 1) := by decide +kernel
theorem dX0_wetOfAll_0 : decode cX0_wetOfAll 0 = .ok (.iconst 0, 1) := by decide +kernel
theorem dX0_wetOfAll_1 : decode cX0_wetOfAll 1 = .ok (.istore_n 1, 1) := by decide +kernel
theorem dX0_wetOfAll_2 : decode cX0_wetOfAll 2 = .ok (.iconst 0, 1) := by decide +kernel
theorem dX0_wetOfAll_3 : decode cX0_wetOfAll 3 = .ok (.istore_n 2, 1) := by decide +kernel
theorem dX0_wetOfAll_4 : decode cX0_wetOfAll 4 = .ok (.iload_n 2, 1) := by decide +kernel
theorem dX0_wetOfAll_5 : decode cX0_wetOfAll 5 = .ok (.aload_n 0, 1) := by decide +kernel
theorem dX0_wetOfAll_6 : decode cX0_wetOfAll 6 = .ok (.getfield 25, 3) := by decide +kernel
theorem dX0_wetOfAll_9 : decode cX0_wetOfAll 9 = .ok (.if_icmp .ge 18, 3) := by decide +kernel
theorem dX0_wetOfAll_12 : decode cX0_wetOfAll 12 = .ok (.iload_n 1, 1) := by decide +kernel
theorem dX0_wetOfAll_13 : decode cX0_wetOfAll 13 = .ok (.aload_n 0, 1) := by decide +kernel
theorem dX0_wetOfAll_14 : decode cX0_wetOfAll 14 = .ok (.getfield 15, 3) := by decide +kernel
theorem dX0_wetOfAll_17 : decode cX0_wetOfAll 17 = .ok (.iload_n 2, 1) := by decide +kernel
theorem dX0_wetOfAll_18 : decode cX0_wetOfAll 18 = .ok (.iaload, 1) := by decide +kernel
theorem dX0_wetOfAll_19 : decode cX0_wetOfAll 19 = .ok (.iadd, 1) := by decide +kernel
theorem dX0_wetOfAll_20 : decode cX0_wetOfAll 20 = .ok (.istore_n 1, 1) := by decide +kernel
theorem dX0_wetOfAll_21 : decode cX0_wetOfAll 21 = .ok (.iinc 2 1, 3) := by decide +kernel
theorem dX0_wetOfAll_24 : decode cX0_wetOfAll 24 = .ok (.goto (-20), 3) := by decide +kernel
theorem dX0_wetOfAll_27 : decode cX0_wetOfAll 27 = .ok (.iload_n 1, 1) := by decide +kernel
theorem dX0_wetOfAll_28 : decode cX0_wetOfAll 28 = .ok (.ireturn, 1) := by decide +kernel
theorem dX0_isCrackedBehind_0 : decode cX0_isCrackedBehind 0 = .ok (.aload_n 0, 1) := by decide +kernel
theorem dX0_isCrackedBehind_1 : decode cX0_isCrackedBehind 1 = .ok (.iload_n 1, 1) := by decide +kernel
theorem dX0_isCrackedBehind_2 : decode cX0_isCrackedBehind 2 = .ok (.invokevirtual 69, 3) := by decide +kernel
theorem dX0_isCrackedBehind_5 : decode cX0_isCrackedBehind 5 = .ok (.ifCond .eq 23, 3) := by decide +kernel
theorem dX0_isCrackedBehind_8 : decode cX0_isCrackedBehind 8 = .ok (.aload_n 0, 1) := by decide +kernel
theorem dX0_isCrackedBehind_9 : decode cX0_isCrackedBehind 9 = .ok (.getfield 15, 3) := by decide +kernel
theorem dX0_isCrackedBehind_12 : decode cX0_isCrackedBehind 12 = .ok (.iload_n 1, 1) := by decide +kernel
theorem dX0_isCrackedBehind_13 : decode cX0_isCrackedBehind 13 = .ok (.iaload, 1) := by decide +kernel
theorem dX0_isCrackedBehind_14 : decode cX0_isCrackedBehind 14 = .ok (.iload_n 2, 1) := by decide +kernel
theorem dX0_isCrackedBehind_15 : decode cX0_isCrackedBehind 15 = .ok (.aload_n 0, 1) := by decide +kernel
theorem dX0_isCrackedBehind_16 : decode cX0_isCrackedBehind 16 = .ok (.iload_n 1, 1) := by decide +kernel
theorem dX0_isCrackedBehind_17 : decode cX0_isCrackedBehind 17 = .ok (.invokevirtual 63, 3) := by decide +kernel
theorem dX0_isCrackedBehind_20 : decode cX0_isCrackedBehind 20 = .ok (.imul, 1) := by decide +kernel
theorem dX0_isCrackedBehind_21 : decode cX0_isCrackedBehind 21 = .ok (.if_icmp .gt 7, 3) := by decide +kernel
theorem dX0_isCrackedBehind_24 : decode cX0_isCrackedBehind 24 = .ok (.iconst 1, 1) := by decide +kernel
theorem dX0_isCrackedBehind_25 : decode cX0_isCrackedBehind 25 = .ok (.goto 4, 3) := by decide +kernel
theorem dX0_isCrackedBehind_28 : decode cX0_isCrackedBehind 28 = .ok (.iconst 0, 1) := by decide +kernel
theorem dX0_isCrackedBehind_29 : decode cX0_isCrackedBehind 29 = .ok (.ireturn, 1) := by decide +kernel
theorem dX0_crackedSetBehind_0 : decode cX0_crackedSetBehind 0 = .ok (.iconst 0, 1) := by decide +kernel
theorem dX0_crackedSetBehind_1 : decode cX0_crackedSetBehind 1 = .ok (.istore_n 2, 1) := by decide +kernel
theorem dX0_crackedSetBehind_2 : decode cX0_crackedSetBehind 2 = .ok (.iconst 0, 1) := by decide +kernel
theorem dX0_crackedSetBehind_3 : decode cX0_crackedSetBehind 3 = .ok (.istore_n 3, 1) := by decide +kernel
theorem dX0_crackedSetBehind_4 : decode cX0_crackedSetBehind 4 = .ok (.iload_n 3, 1) := by decide +kernel
theorem dX0_crackedSetBehind_5 : decode cX0_crackedSetBehind 5 = .ok (.aload_n 0, 1) := by decide +kernel
theorem dX0_crackedSetBehind_6 : decode cX0_crackedSetBehind 6 = .ok (.getfield 25, 3) := by decide +kernel
theorem dX0_crackedSetBehind_9 : decode cX0_crackedSetBehind 9 = .ok (.if_icmp .ge 24, 3) := by decide +kernel
theorem dX0_crackedSetBehind_12 : decode cX0_crackedSetBehind 12 = .ok (.aload_n 0, 1) := by decide +kernel
theorem dX0_crackedSetBehind_13 : decode cX0_crackedSetBehind 13 = .ok (.iload_n 3, 1) := by decide +kernel
theorem dX0_crackedSetBehind_14 : decode cX0_crackedSetBehind 14 = .ok (.iload_n 1, 1) := by decide +kernel
theorem dX0_crackedSetBehind_15 : decode cX0_crackedSetBehind 15 = .ok (.invokevirtual 73, 3) := by decide +kernel
theorem dX0_crackedSetBehind_18 : decode cX0_crackedSetBehind 18 = .ok (.ifCond .eq 9, 3) := by decide +kernel
theorem dX0_crackedSetBehind_21 : decode cX0_crackedSetBehind 21 = .ok (.iload_n 2, 1) := by decide +kernel
theorem dX0_crackedSetBehind_22 : decode cX0_crackedSetBehind 22 = .ok (.iconst 1, 1) := by decide +kernel
theorem dX0_crackedSetBehind_23 : decode cX0_crackedSetBehind 23 = .ok (.iload_n 3, 1) := by decide +kernel
theorem dX0_crackedSetBehind_24 : decode cX0_crackedSetBehind 24 = .ok (.ishl, 1) := by decide +kernel
theorem dX0_crackedSetBehind_25 : decode cX0_crackedSetBehind 25 = .ok (.ior, 1) := by decide +kernel
theorem dX0_crackedSetBehind_26 : decode cX0_crackedSetBehind 26 = .ok (.istore_n 2, 1) := by decide +kernel
theorem dX0_crackedSetBehind_27 : decode cX0_crackedSetBehind 27 = .ok (.iinc 3 1, 3) := by decide +kernel
theorem dX0_crackedSetBehind_30 : decode cX0_crackedSetBehind 30 = .ok (.goto (-26), 3) := by decide +kernel
theorem dX0_crackedSetBehind_33 : decode cX0_crackedSetBehind 33 = .ok (.iload_n 2, 1) := by decide +kernel
theorem dX0_crackedSetBehind_34 : decode cX0_crackedSetBehind 34 = .ok (.ireturn, 1) := by decide +kernel
theorem dX0_crackedSet_0 : decode cX0_crackedSet 0 = .ok (.iconst 0, 1) := by decide +kernel
theorem dX0_crackedSet_1 : decode cX0_crackedSet 1 = .ok (.istore_n 1, 1) := by decide +kernel
theorem dX0_crackedSet_2 : decode cX0_crackedSet 2 = .ok (.iconst 0, 1) := by decide +kernel
theorem dX0_crackedSet_3 : decode cX0_crackedSet 3 = .ok (.istore_n 2, 1) := by decide +kernel
theorem dX0_crackedSet_4 : decode cX0_crackedSet 4 = .ok (.iload_n 2, 1) := by decide +kernel
theorem dX0_crackedSet_5 : decode cX0_crackedSet 5 = .ok (.aload_n 0, 1) := by decide +kernel
theorem dX0_crackedSet_6 : decode cX0_crackedSet 6 = .ok (.getfield 25, 3) := by decide +kernel
theorem dX0_crackedSet_9 : decode cX0_crackedSet 9 = .ok (.if_icmp .ge 24, 3) := by decide +kernel
theorem dX0_crackedSet_12 : decode cX0_crackedSet 12 = .ok (.aload_n 0, 1) := by decide +kernel
theorem dX0_crackedSet_13 : decode cX0_crackedSet 13 = .ok (.getfield 15, 3) := by decide +kernel
theorem dX0_crackedSet_16 : decode cX0_crackedSet 16 = .ok (.iload_n 2, 1) := by decide +kernel
theorem dX0_crackedSet_17 : decode cX0_crackedSet 17 = .ok (.iaload, 1) := by decide +kernel
theorem dX0_crackedSet_18 : decode cX0_crackedSet 18 = .ok (.ifCond .ne 9, 3) := by decide +kernel
theorem dX0_crackedSet_21 : decode cX0_crackedSet 21 = .ok (.iload_n 1, 1) := by decide +kernel
theorem dX0_crackedSet_22 : decode cX0_crackedSet 22 = .ok (.iconst 1, 1) := by decide +kernel
theorem dX0_crackedSet_23 : decode cX0_crackedSet 23 = .ok (.iload_n 2, 1) := by decide +kernel
theorem dX0_crackedSet_24 : decode cX0_crackedSet 24 = .ok (.ishl, 1) := by decide +kernel
theorem dX0_crackedSet_25 : decode cX0_crackedSet 25 = .ok (.ior, 1) := by decide +kernel
theorem dX0_crackedSet_26 : decode cX0_crackedSet 26 = .ok (.istore_n 1, 1) := by decide +kernel
theorem dX0_crackedSet_27 : decode cX0_crackedSet 27 = .ok (.iinc 2 1, 3) := by decide +kernel
theorem dX0_crackedSet_30 : decode cX0_crackedSet 30 = .ok (.goto (-26), 3) := by decide +kernel
theorem dX0_crackedSet_33 : decode cX0_crackedSet 33 = .ok (.iload_n 1, 1) := by decide +kernel
theorem dX0_crackedSet_34 : decode cX0_crackedSet 34 = .ok (.ireturn, 1) := by decide +kernel
theorem dX0_wetSet_0 : decode cX0_wetSet 0 = .ok (.aload_n 0, 1) := by decide +kernel
theorem dX0_wetSet_1 : decode cX0_wetSet 1 = .ok (.getfield 31, 3) := by decide +kernel
theorem dX0_wetSet_4 : decode cX0_wetSet 4 = .ok (.aload_n 0, 1) := by decide +kernel
theorem dX0_wetSet_5 : decode cX0_wetSet 5 = .ok (.invokevirtual 77, 3) := by decide +kernel
theorem dX0_wetSet_8 : decode cX0_wetSet 8 = .ok (.iconst (-1), 1) := by decide +kernel
theorem dX0_wetSet_9 : decode cX0_wetSet 9 = .ok (.ixor, 1) := by decide +kernel
theorem dX0_wetSet_10 : decode cX0_wetSet 10 = .ok (.iand, 1) := by decide +kernel
theorem dX0_wetSet_11 : decode cX0_wetSet 11 = .ok (.ireturn, 1) := by decide +kernel
theorem dX0_beside_0 : decode cX0_beside 0 = .ok (.iload_n 1, 1) := by decide +kernel
theorem dX0_beside_1 : decode cX0_beside 1 = .ok (.aload_n 0, 1) := by decide +kernel
theorem dX0_beside_2 : decode cX0_beside 2 = .ok (.getfield 37, 3) := by decide +kernel
theorem dX0_beside_5 : decode cX0_beside 5 = .ok (.iconst (-1), 1) := by decide +kernel
theorem dX0_beside_6 : decode cX0_beside 6 = .ok (.ixor, 1) := by decide +kernel
theorem dX0_beside_7 : decode cX0_beside 7 = .ok (.iand, 1) := by decide +kernel
theorem dX0_beside_8 : decode cX0_beside 8 = .ok (.iconst 1, 1) := by decide +kernel
theorem dX0_beside_9 : decode cX0_beside 9 = .ok (.ishl, 1) := by decide +kernel
theorem dX0_beside_10 : decode cX0_beside 10 = .ok (.iload_n 1, 1) := by decide +kernel
theorem dX0_beside_11 : decode cX0_beside 11 = .ok (.aload_n 0, 1) := by decide +kernel
theorem dX0_beside_12 : decode cX0_beside 12 = .ok (.getfield 34, 3) := by decide +kernel
theorem dX0_beside_15 : decode cX0_beside 15 = .ok (.iconst (-1), 1) := by decide +kernel
theorem dX0_beside_16 : decode cX0_beside 16 = .ok (.ixor, 1) := by decide +kernel
theorem dX0_beside_17 : decode cX0_beside 17 = .ok (.iand, 1) := by decide +kernel
theorem dX0_beside_18 : decode cX0_beside 18 = .ok (.iconst 1, 1) := by decide +kernel
theorem dX0_beside_19 : decode cX0_beside 19 = .ok (.ishr, 1) := by decide +kernel
theorem dX0_beside_20 : decode cX0_beside 20 = .ok (.ior, 1) := by decide +kernel
theorem dX0_beside_21 : decode cX0_beside 21 = .ok (.istore_n 2, 1) := by decide +kernel
theorem dX0_beside_22 : decode cX0_beside 22 = .ok (.iload_n 1, 1) := by decide +kernel
theorem dX0_beside_23 : decode cX0_beside 23 = .ok (.aload_n 0, 1) := by decide +kernel
theorem dX0_beside_24 : decode cX0_beside 24 = .ok (.getfield 18, 3) := by decide +kernel
theorem dX0_beside_27 : decode cX0_beside 27 = .ok (.ishl, 1) := by decide +kernel
theorem dX0_beside_28 : decode cX0_beside 28 = .ok (.iload_n 1, 1) := by decide +kernel
theorem dX0_beside_29 : decode cX0_beside 29 = .ok (.aload_n 0, 1) := by decide +kernel
theorem dX0_beside_30 : decode cX0_beside 30 = .ok (.getfield 18, 3) := by decide +kernel
theorem dX0_beside_33 : decode cX0_beside 33 = .ok (.ishr, 1) := by decide +kernel
theorem dX0_beside_34 : decode cX0_beside 34 = .ok (.ior, 1) := by decide +kernel
theorem dX0_beside_35 : decode cX0_beside 35 = .ok (.istore_n 3, 1) := by decide +kernel
theorem dX0_beside_36 : decode cX0_beside 36 = .ok (.iload_n 2, 1) := by decide +kernel
theorem dX0_beside_37 : decode cX0_beside 37 = .ok (.iload_n 3, 1) := by decide +kernel
theorem dX0_beside_38 : decode cX0_beside 38 = .ok (.ior, 1) := by decide +kernel
theorem dX0_beside_39 : decode cX0_beside 39 = .ok (.aload_n 0, 1) := by decide +kernel
theorem dX0_beside_40 : decode cX0_beside 40 = .ok (.getfield 31, 3) := by decide +kernel
theorem dX0_beside_43 : decode cX0_beside 43 = .ok (.iand, 1) := by decide +kernel
theorem dX0_beside_44 : decode cX0_beside 44 = .ok (.ireturn, 1) := by decide +kernel
theorem dX0_hanging_0 : decode cX0_hanging 0 = .ok (.iload_n 1, 1) := by decide +kernel
theorem dX0_hanging_1 : decode cX0_hanging 1 = .ok (.iload_n 2, 1) := by decide +kernel
theorem dX0_hanging_2 : decode cX0_hanging 2 = .ok (.iand, 1) := by decide +kernel
theorem dX0_hanging_3 : decode cX0_hanging 3 = .ok (.istore_n 3, 1) := by decide +kernel
theorem dX0_hanging_4 : decode cX0_hanging 4 = .ok (.iconst 0, 1) := by decide +kernel
theorem dX0_hanging_5 : decode cX0_hanging 5 = .ok (.istore 4, 2) := by decide +kernel
theorem dX0_hanging_7 : decode cX0_hanging 7 = .ok (.iload 4, 2) := by decide +kernel
theorem dX0_hanging_9 : decode cX0_hanging 9 = .ok (.aload_n 0, 1) := by decide +kernel
theorem dX0_hanging_10 : decode cX0_hanging 10 = .ok (.getfield 25, 3) := by decide +kernel
theorem dX0_hanging_13 : decode cX0_hanging 13 = .ok (.if_icmp .ge 32, 3) := by decide +kernel
theorem dX0_hanging_16 : decode cX0_hanging 16 = .ok (.iload_n 3, 1) := by decide +kernel
theorem dX0_hanging_17 : decode cX0_hanging 17 = .ok (.aload_n 0, 1) := by decide +kernel
theorem dX0_hanging_18 : decode cX0_hanging 18 = .ok (.iload_n 3, 1) := by decide +kernel
theorem dX0_hanging_19 : decode cX0_hanging 19 = .ok (.invokevirtual 81, 3) := by decide +kernel
theorem dX0_hanging_22 : decode cX0_hanging 22 = .ok (.ior, 1) := by decide +kernel
theorem dX0_hanging_23 : decode cX0_hanging 23 = .ok (.iload_n 2, 1) := by decide +kernel
theorem dX0_hanging_24 : decode cX0_hanging 24 = .ok (.iand, 1) := by decide +kernel
theorem dX0_hanging_25 : decode cX0_hanging 25 = .ok (.istore 5, 2) := by decide +kernel
theorem dX0_hanging_27 : decode cX0_hanging 27 = .ok (.iload 5, 2) := by decide +kernel
theorem dX0_hanging_29 : decode cX0_hanging 29 = .ok (.iload_n 3, 1) := by decide +kernel
theorem dX0_hanging_30 : decode cX0_hanging 30 = .ok (.if_icmp .ne 6, 3) := by decide +kernel
theorem dX0_hanging_33 : decode cX0_hanging 33 = .ok (.goto 12, 3) := by decide +kernel
theorem dX0_hanging_36 : decode cX0_hanging 36 = .ok (.iload 5, 2) := by decide +kernel
theorem dX0_hanging_38 : decode cX0_hanging 38 = .ok (.istore_n 3, 1) := by decide +kernel
theorem dX0_hanging_39 : decode cX0_hanging 39 = .ok (.iinc 4 1, 3) := by decide +kernel
theorem dX0_hanging_42 : decode cX0_hanging 42 = .ok (.goto (-35), 3) := by decide +kernel
theorem dX0_hanging_45 : decode cX0_hanging 45 = .ok (.iload_n 3, 1) := by decide +kernel
theorem dX0_hanging_46 : decode cX0_hanging 46 = .ok (.ireturn, 1) := by decide +kernel
theorem dX0_isOpenBy_0 : decode cX0_isOpenBy 0 = .ok (.iconst 1, 1) := by decide +kernel
theorem dX0_isOpenBy_1 : decode cX0_isOpenBy 1 = .ok (.aload_n 0, 1) := by decide +kernel
theorem dX0_isOpenBy_2 : decode cX0_isOpenBy 2 = .ok (.getfield 18, 3) := by decide +kernel
theorem dX0_isOpenBy_5 : decode cX0_isOpenBy 5 = .ok (.ishl, 1) := by decide +kernel
theorem dX0_isOpenBy_6 : decode cX0_isOpenBy 6 = .ok (.iconst 1, 1) := by decide +kernel
theorem dX0_isOpenBy_7 : decode cX0_isOpenBy 7 = .ok (.isub, 1) := by decide +kernel
theorem dX0_isOpenBy_8 : decode cX0_isOpenBy 8 = .ok (.istore_n 2, 1) := by decide +kernel
theorem dX0_isOpenBy_9 : decode cX0_isOpenBy 9 = .ok (.iload_n 2, 1) := by decide +kernel
theorem dX0_isOpenBy_10 : decode cX0_isOpenBy 10 = .ok (.aload_n 0, 1) := by decide +kernel
theorem dX0_isOpenBy_11 : decode cX0_isOpenBy 11 = .ok (.getfield 25, 3) := by decide +kernel
theorem dX0_isOpenBy_14 : decode cX0_isOpenBy 14 = .ok (.aload_n 0, 1) := by decide +kernel
theorem dX0_isOpenBy_15 : decode cX0_isOpenBy 15 = .ok (.getfield 18, 3) := by decide +kernel
theorem dX0_isOpenBy_18 : decode cX0_isOpenBy 18 = .ok (.isub, 1) := by decide +kernel
theorem dX0_isOpenBy_19 : decode cX0_isOpenBy 19 = .ok (.ishl, 1) := by decide +kernel
theorem dX0_isOpenBy_20 : decode cX0_isOpenBy 20 = .ok (.istore_n 3, 1) := by decide +kernel
theorem dX0_isOpenBy_21 : decode cX0_isOpenBy 21 = .ok (.aload_n 0, 1) := by decide +kernel
theorem dX0_isOpenBy_22 : decode cX0_isOpenBy 22 = .ok (.iload_n 2, 1) := by decide +kernel
theorem dX0_isOpenBy_23 : decode cX0_isOpenBy 23 = .ok (.iload_n 1, 1) := by decide +kernel
theorem dX0_isOpenBy_24 : decode cX0_isOpenBy 24 = .ok (.invokevirtual 84, 3) := by decide +kernel
theorem dX0_isOpenBy_27 : decode cX0_isOpenBy 27 = .ok (.iload_n 3, 1) := by decide +kernel
theorem dX0_isOpenBy_28 : decode cX0_isOpenBy 28 = .ok (.iand, 1) := by decide +kernel
theorem dX0_isOpenBy_29 : decode cX0_isOpenBy 29 = .ok (.ifCond .eq 7, 3) := by decide +kernel
theorem dX0_isOpenBy_32 : decode cX0_isOpenBy 32 = .ok (.iconst 1, 1) := by decide +kernel
theorem dX0_isOpenBy_33 : decode cX0_isOpenBy 33 = .ok (.goto 4, 3) := by decide +kernel
theorem dX0_isOpenBy_36 : decode cX0_isOpenBy 36 = .ok (.iconst 0, 1) := by decide +kernel
theorem dX0_isOpenBy_37 : decode cX0_isOpenBy 37 = .ok (.ireturn, 1) := by decide +kernel
theorem dX0_fewestSteps_0 : decode cX0_fewestSteps 0 = .ok (.aload_n 0, 1) := by decide +kernel
theorem dX0_fewestSteps_1 : decode cX0_fewestSteps 1 = .ok (.invokevirtual 77, 3) := by decide +kernel
theorem dX0_fewestSteps_4 : decode cX0_fewestSteps 4 = .ok (.istore_n 3, 1) := by decide +kernel
theorem dX0_fewestSteps_5 : decode cX0_fewestSteps 5 = .ok (.iconst 1, 1) := by decide +kernel
theorem dX0_fewestSteps_6 : decode cX0_fewestSteps 6 = .ok (.iload_n 1, 1) := by decide +kernel
theorem dX0_fewestSteps_7 : decode cX0_fewestSteps 7 = .ok (.ishl, 1) := by decide +kernel
theorem dX0_fewestSteps_8 : decode cX0_fewestSteps 8 = .ok (.iload_n 3, 1) := by decide +kernel
theorem dX0_fewestSteps_9 : decode cX0_fewestSteps 9 = .ok (.iand, 1) := by decide +kernel
theorem dX0_fewestSteps_10 : decode cX0_fewestSteps 10 = .ok (.istore 4, 2) := by decide +kernel
theorem dX0_fewestSteps_12 : decode cX0_fewestSteps 12 = .ok (.iconst 0, 1) := by decide +kernel
theorem dX0_fewestSteps_13 : decode cX0_fewestSteps 13 = .ok (.istore 5, 2) := by decide +kernel
theorem dX0_fewestSteps_15 : decode cX0_fewestSteps 15 = .ok (.iload 5, 2) := by decide +kernel
theorem dX0_fewestSteps_17 : decode cX0_fewestSteps 17 = .ok (.aload_n 0, 1) := by decide +kernel
theorem dX0_fewestSteps_18 : decode cX0_fewestSteps 18 = .ok (.getfield 25, 3) := by decide +kernel
theorem dX0_fewestSteps_21 : decode cX0_fewestSteps 21 = .ok (.if_icmp .ge 34, 3) := by decide +kernel
theorem dX0_fewestSteps_24 : decode cX0_fewestSteps 24 = .ok (.iload 4, 2) := by decide +kernel
theorem dX0_fewestSteps_26 : decode cX0_fewestSteps 26 = .ok (.iconst 1, 1) := by decide +kernel
theorem dX0_fewestSteps_27 : decode cX0_fewestSteps 27 = .ok (.iload_n 2, 1) := by decide +kernel
theorem dX0_fewestSteps_28 : decode cX0_fewestSteps 28 = .ok (.ishl, 1) := by decide +kernel
theorem dX0_fewestSteps_29 : decode cX0_fewestSteps 29 = .ok (.iand, 1) := by decide +kernel
theorem dX0_fewestSteps_30 : decode cX0_fewestSteps 30 = .ok (.ifCond .eq 6, 3) := by decide +kernel
theorem dX0_fewestSteps_33 : decode cX0_fewestSteps 33 = .ok (.iload 5, 2) := by decide +kernel
theorem dX0_fewestSteps_35 : decode cX0_fewestSteps 35 = .ok (.ireturn, 1) := by decide +kernel
theorem dX0_fewestSteps_36 : decode cX0_fewestSteps 36 = .ok (.iload 4, 2) := by decide +kernel
theorem dX0_fewestSteps_38 : decode cX0_fewestSteps 38 = .ok (.aload_n 0, 1) := by decide +kernel
theorem dX0_fewestSteps_39 : decode cX0_fewestSteps 39 = .ok (.iload 4, 2) := by decide +kernel
theorem dX0_fewestSteps_41 : decode cX0_fewestSteps 41 = .ok (.invokevirtual 81, 3) := by decide +kernel
theorem dX0_fewestSteps_44 : decode cX0_fewestSteps 44 = .ok (.ior, 1) := by decide +kernel
theorem dX0_fewestSteps_45 : decode cX0_fewestSteps 45 = .ok (.iload_n 3, 1) := by decide +kernel
theorem dX0_fewestSteps_46 : decode cX0_fewestSteps 46 = .ok (.iand, 1) := by decide +kernel
theorem dX0_fewestSteps_47 : decode cX0_fewestSteps 47 = .ok (.istore 4, 2) := by decide +kernel
theorem dX0_fewestSteps_49 : decode cX0_fewestSteps 49 = .ok (.iinc 5 1, 3) := by decide +kernel
theorem dX0_fewestSteps_52 : decode cX0_fewestSteps 52 = .ok (.goto (-37), 3) := by decide +kernel
theorem dX0_fewestSteps_55 : decode cX0_fewestSteps 55 = .ok (.bipush (-9), 2) := by decide +kernel
theorem dX0_fewestSteps_57 : decode cX0_fewestSteps 57 = .ok (.ireturn, 1) := by decide +kernel
theorem dX0_howManyPieces_0 : decode cX0_howManyPieces 0 = .ok (.aload_n 0, 1) := by decide +kernel
theorem dX0_howManyPieces_1 : decode cX0_howManyPieces 1 = .ok (.invokevirtual 87, 3) := by decide +kernel
theorem dX0_howManyPieces_4 : decode cX0_howManyPieces 4 = .ok (.istore_n 1, 1) := by decide +kernel
theorem dX0_howManyPieces_5 : decode cX0_howManyPieces 5 = .ok (.iconst 0, 1) := by decide +kernel
theorem dX0_howManyPieces_6 : decode cX0_howManyPieces 6 = .ok (.istore_n 2, 1) := by decide +kernel
theorem dX0_howManyPieces_7 : decode cX0_howManyPieces 7 = .ok (.iconst 0, 1) := by decide +kernel
theorem dX0_howManyPieces_8 : decode cX0_howManyPieces 8 = .ok (.istore_n 3, 1) := by decide +kernel
theorem dX0_howManyPieces_9 : decode cX0_howManyPieces 9 = .ok (.iload_n 3, 1) := by decide +kernel
theorem dX0_howManyPieces_10 : decode cX0_howManyPieces 10 = .ok (.aload_n 0, 1) := by decide +kernel
theorem dX0_howManyPieces_11 : decode cX0_howManyPieces 11 = .ok (.getfield 25, 3) := by decide +kernel
theorem dX0_howManyPieces_14 : decode cX0_howManyPieces 14 = .ok (.if_icmp .ge 30, 3) := by decide +kernel
theorem dX0_howManyPieces_17 : decode cX0_howManyPieces 17 = .ok (.iload_n 1, 1) := by decide +kernel
theorem dX0_howManyPieces_18 : decode cX0_howManyPieces 18 = .ok (.ifCond .eq 26, 3) := by decide +kernel
theorem dX0_howManyPieces_21 : decode cX0_howManyPieces 21 = .ok (.iload_n 1, 1) := by decide +kernel
theorem dX0_howManyPieces_22 : decode cX0_howManyPieces 22 = .ok (.aload_n 0, 1) := by decide +kernel
theorem dX0_howManyPieces_23 : decode cX0_howManyPieces 23 = .ok (.iload_n 1, 1) := by decide +kernel
theorem dX0_howManyPieces_24 : decode cX0_howManyPieces 24 = .ok (.invokestatic 90, 3) := by decide +kernel
theorem dX0_howManyPieces_27 : decode cX0_howManyPieces 27 = .ok (.iload_n 1, 1) := by decide +kernel
theorem dX0_howManyPieces_28 : decode cX0_howManyPieces 28 = .ok (.invokevirtual 84, 3) := by decide +kernel
theorem dX0_howManyPieces_31 : decode cX0_howManyPieces 31 = .ok (.iconst (-1), 1) := by decide +kernel
theorem dX0_howManyPieces_32 : decode cX0_howManyPieces 32 = .ok (.ixor, 1) := by decide +kernel
theorem dX0_howManyPieces_33 : decode cX0_howManyPieces 33 = .ok (.iand, 1) := by decide +kernel
theorem dX0_howManyPieces_34 : decode cX0_howManyPieces 34 = .ok (.istore_n 1, 1) := by decide +kernel
theorem dX0_howManyPieces_35 : decode cX0_howManyPieces 35 = .ok (.iinc 2 1, 3) := by decide +kernel
theorem dX0_howManyPieces_38 : decode cX0_howManyPieces 38 = .ok (.iinc 3 1, 3) := by decide +kernel
theorem dX0_howManyPieces_41 : decode cX0_howManyPieces 41 = .ok (.goto (-32), 3) := by decide +kernel
theorem dX0_howManyPieces_44 : decode cX0_howManyPieces 44 = .ok (.iload_n 2, 1) := by decide +kernel
theorem dX0_howManyPieces_45 : decode cX0_howManyPieces 45 = .ok (.ireturn, 1) := by decide +kernel
theorem dX0_greatestPiece_0 : decode cX0_greatestPiece 0 = .ok (.aload_n 0, 1) := by decide +kernel
theorem dX0_greatestPiece_1 : decode cX0_greatestPiece 1 = .ok (.invokevirtual 87, 3) := by decide +kernel
theorem dX0_greatestPiece_4 : decode cX0_greatestPiece 4 = .ok (.istore_n 1, 1) := by decide +kernel
theorem dX0_greatestPiece_5 : decode cX0_greatestPiece 5 = .ok (.iconst 0, 1) := by decide +kernel
theorem dX0_greatestPiece_6 : decode cX0_greatestPiece 6 = .ok (.istore_n 2, 1) := by decide +kernel
theorem dX0_greatestPiece_7 : decode cX0_greatestPiece 7 = .ok (.iconst 0, 1) := by decide +kernel
theorem dX0_greatestPiece_8 : decode cX0_greatestPiece 8 = .ok (.istore_n 3, 1) := by decide +kernel
theorem dX0_greatestPiece_9 : decode cX0_greatestPiece 9 = .ok (.iload_n 3, 1) := by decide +kernel
theorem dX0_greatestPiece_10 : decode cX0_greatestPiece 10 = .ok (.aload_n 0, 1) := by decide +kernel
theorem dX0_greatestPiece_11 : decode cX0_greatestPiece 11 = .ok (.getfield 25, 3) := by decide +kernel
theorem dX0_greatestPiece_14 : decode cX0_greatestPiece 14 = .ok (.if_icmp .ge 41, 3) := by decide +kernel
theorem dX0_greatestPiece_17 : decode cX0_greatestPiece 17 = .ok (.iload_n 1, 1) := by decide +kernel
theorem dX0_greatestPiece_18 : decode cX0_greatestPiece 18 = .ok (.ifCond .eq 37, 3) := by decide +kernel
theorem dX0_greatestPiece_21 : decode cX0_greatestPiece 21 = .ok (.aload_n 0, 1) := by decide +kernel
theorem dX0_greatestPiece_22 : decode cX0_greatestPiece 22 = .ok (.iload_n 1, 1) := by decide +kernel
theorem dX0_greatestPiece_23 : decode cX0_greatestPiece 23 = .ok (.invokestatic 90, 3) := by decide +kernel
theorem dX0_greatestPiece_26 : decode cX0_greatestPiece 26 = .ok (.iload_n 1, 1) := by decide +kernel
theorem dX0_greatestPiece_27 : decode cX0_greatestPiece 27 = .ok (.invokevirtual 84, 3) := by decide +kernel
theorem dX0_greatestPiece_30 : decode cX0_greatestPiece 30 = .ok (.istore 4, 2) := by decide +kernel
theorem dX0_greatestPiece_32 : decode cX0_greatestPiece 32 = .ok (.iload_n 2, 1) := by decide +kernel
theorem dX0_greatestPiece_33 : decode cX0_greatestPiece 33 = .ok (.iload 4, 2) := by decide +kernel
theorem dX0_greatestPiece_35 : decode cX0_greatestPiece 35 = .ok (.invokestatic 95, 3) := by decide +kernel
theorem dX0_greatestPiece_38 : decode cX0_greatestPiece 38 = .ok (.invokestatic 66, 3) := by decide +kernel
theorem dX0_greatestPiece_41 : decode cX0_greatestPiece 41 = .ok (.istore_n 2, 1) := by decide +kernel
theorem dX0_greatestPiece_42 : decode cX0_greatestPiece 42 = .ok (.iload_n 1, 1) := by decide +kernel
theorem dX0_greatestPiece_43 : decode cX0_greatestPiece 43 = .ok (.iload 4, 2) := by decide +kernel
theorem dX0_greatestPiece_45 : decode cX0_greatestPiece 45 = .ok (.iconst (-1), 1) := by decide +kernel
theorem dX0_greatestPiece_46 : decode cX0_greatestPiece 46 = .ok (.ixor, 1) := by decide +kernel
theorem dX0_greatestPiece_47 : decode cX0_greatestPiece 47 = .ok (.iand, 1) := by decide +kernel
theorem dX0_greatestPiece_48 : decode cX0_greatestPiece 48 = .ok (.istore_n 1, 1) := by decide +kernel
theorem dX0_greatestPiece_49 : decode cX0_greatestPiece 49 = .ok (.iinc 3 1, 3) := by decide +kernel
theorem dX0_greatestPiece_52 : decode cX0_greatestPiece 52 = .ok (.goto (-43), 3) := by decide +kernel
theorem dX0_greatestPiece_55 : decode cX0_greatestPiece 55 = .ok (.iload_n 2, 1) := by decide +kernel
theorem dX0_greatestPiece_56 : decode cX0_greatestPiece 56 = .ok (.ireturn, 1) := by decide +kernel
theorem dX0_fewestBars_0 : decode cX0_fewestBars 0 = .ok (.iconst 0, 1) := by decide +kernel
theorem dX0_fewestBars_1 : decode cX0_fewestBars 1 = .ok (.istore_n 2, 1) := by decide +kernel
theorem dX0_fewestBars_2 : decode cX0_fewestBars 2 = .ok (.bipush 13, 2) := by decide +kernel
theorem dX0_fewestBars_4 : decode cX0_fewestBars 4 = .ok (.istore_n 3, 1) := by decide +kernel
theorem dX0_fewestBars_5 : decode cX0_fewestBars 5 = .ok (.iconst 0, 1) := by decide +kernel
theorem dX0_fewestBars_6 : decode cX0_fewestBars 6 = .ok (.istore 4, 2) := by decide +kernel
theorem dX0_fewestBars_8 : decode cX0_fewestBars 8 = .ok (.iload 4, 2) := by decide +kernel
theorem dX0_fewestBars_10 : decode cX0_fewestBars 10 = .ok (.aload_n 0, 1) := by decide +kernel
theorem dX0_fewestBars_11 : decode cX0_fewestBars 11 = .ok (.getfield 31, 3) := by decide +kernel
theorem dX0_fewestBars_14 : decode cX0_fewestBars 14 = .ok (.if_icmp .gt 61, 3) := by decide +kernel
theorem dX0_fewestBars_17 : decode cX0_fewestBars 17 = .ok (.iload 4, 2) := by decide +kernel
theorem dX0_fewestBars_19 : decode cX0_fewestBars 19 = .ok (.iload_n 1, 1) := by decide +kernel
theorem dX0_fewestBars_20 : decode cX0_fewestBars 20 = .ok (.iconst (-1), 1) := by decide +kernel
theorem dX0_fewestBars_21 : decode cX0_fewestBars 21 = .ok (.ixor, 1) := by decide +kernel
theorem dX0_fewestBars_22 : decode cX0_fewestBars 22 = .ok (.iand, 1) := by decide +kernel
theorem dX0_fewestBars_23 : decode cX0_fewestBars 23 = .ok (.ifCond .ne 16, 3) := by decide +kernel
theorem dX0_fewestBars_26 : decode cX0_fewestBars 26 = .ok (.iload 4, 2) := by decide +kernel
theorem dX0_fewestBars_28 : decode cX0_fewestBars 28 = .ok (.invokestatic 95, 3) := by decide +kernel
theorem dX0_fewestBars_31 : decode cX0_fewestBars 31 = .ok (.iload_n 3, 1) := by decide +kernel
theorem dX0_fewestBars_32 : decode cX0_fewestBars 32 = .ok (.if_icmp .ge 7, 3) := by decide +kernel
theorem dX0_fewestBars_35 : decode cX0_fewestBars 35 = .ok (.iconst 1, 1) := by decide +kernel
theorem dX0_fewestBars_36 : decode cX0_fewestBars 36 = .ok (.goto 4, 3) := by decide +kernel
theorem dX0_fewestBars_39 : decode cX0_fewestBars 39 = .ok (.iconst 0, 1) := by decide +kernel
theorem dX0_fewestBars_40 : decode cX0_fewestBars 40 = .ok (.istore 5, 2) := by decide +kernel
theorem dX0_fewestBars_42 : decode cX0_fewestBars 42 = .ok (.iload 5, 2) := by decide +kernel
theorem dX0_fewestBars_44 : decode cX0_fewestBars 44 = .ok (.ifCond .eq 25, 3) := by decide +kernel
theorem dX0_fewestBars_47 : decode cX0_fewestBars 47 = .ok (.aload_n 0, 1) := by decide +kernel
theorem dX0_fewestBars_48 : decode cX0_fewestBars 48 = .ok (.iload_n 1, 1) := by decide +kernel
theorem dX0_fewestBars_49 : decode cX0_fewestBars 49 = .ok (.iload 4, 2) := by decide +kernel
theorem dX0_fewestBars_51 : decode cX0_fewestBars 51 = .ok (.iconst (-1), 1) := by decide +kernel
theorem dX0_fewestBars_52 : decode cX0_fewestBars 52 = .ok (.ixor, 1) := by decide +kernel
theorem dX0_fewestBars_53 : decode cX0_fewestBars 53 = .ok (.iand, 1) := by decide +kernel
theorem dX0_fewestBars_54 : decode cX0_fewestBars 54 = .ok (.invokevirtual 98, 3) := by decide +kernel
theorem dX0_fewestBars_57 : decode cX0_fewestBars 57 = .ok (.ifCond .ne 12, 3) := by decide +kernel
theorem dX0_fewestBars_60 : decode cX0_fewestBars 60 = .ok (.iload 4, 2) := by decide +kernel
theorem dX0_fewestBars_62 : decode cX0_fewestBars 62 = .ok (.istore_n 2, 1) := by decide +kernel
theorem dX0_fewestBars_63 : decode cX0_fewestBars 63 = .ok (.iload 4, 2) := by decide +kernel
theorem dX0_fewestBars_65 : decode cX0_fewestBars 65 = .ok (.invokestatic 95, 3) := by decide +kernel
theorem dX0_fewestBars_68 : decode cX0_fewestBars 68 = .ok (.istore_n 3, 1) := by decide +kernel
theorem dX0_fewestBars_69 : decode cX0_fewestBars 69 = .ok (.iinc 4 1, 3) := by decide +kernel
theorem dX0_fewestBars_72 : decode cX0_fewestBars 72 = .ok (.goto (-64), 3) := by decide +kernel
theorem dX0_fewestBars_75 : decode cX0_fewestBars 75 = .ok (.iload_n 2, 1) := by decide +kernel
theorem dX0_fewestBars_76 : decode cX0_fewestBars 76 = .ok (.ireturn, 1) := by decide +kernel
theorem dX0_openWays_0 : decode cX0_openWays 0 = .ok (.aload_n 0, 1) := by decide +kernel
theorem dX0_openWays_1 : decode cX0_openWays 1 = .ok (.invokevirtual 77, 3) := by decide +kernel
theorem dX0_openWays_4 : decode cX0_openWays 4 = .ok (.istore_n 1, 1) := by decide +kernel
theorem dX0_openWays_5 : decode cX0_openWays 5 = .ok (.aload_n 0, 1) := by decide +kernel
theorem dX0_openWays_6 : decode cX0_openWays 6 = .ok (.invokevirtual 87, 3) := by decide +kernel
theorem dX0_openWays_9 : decode cX0_openWays 9 = .ok (.istore_n 2, 1) := by decide +kernel
theorem dX0_openWays_10 : decode cX0_openWays 10 = .ok (.iconst 0, 1) := by decide +kernel
theorem dX0_openWays_11 : decode cX0_openWays 11 = .ok (.istore_n 3, 1) := by decide +kernel
theorem dX0_openWays_12 : decode cX0_openWays 12 = .ok (.iload_n 2, 1) := by decide +kernel
theorem dX0_openWays_13 : decode cX0_openWays 13 = .ok (.istore 4, 2) := by decide +kernel
theorem dX0_openWays_15 : decode cX0_openWays 15 = .ok (.iconst 1, 1) := by decide +kernel
theorem dX0_openWays_16 : decode cX0_openWays 16 = .ok (.iload_n 2, 1) := by decide +kernel
theorem dX0_openWays_17 : decode cX0_openWays 17 = .ok (.invokestatic 95, 3) := by decide +kernel
theorem dX0_openWays_20 : decode cX0_openWays 20 = .ok (.ishl, 1) := by decide +kernel
theorem dX0_openWays_21 : decode cX0_openWays 21 = .ok (.istore 5, 2) := by decide +kernel
theorem dX0_openWays_23 : decode cX0_openWays 23 = .ok (.iload 5, 2) := by decide +kernel
theorem dX0_openWays_25 : decode cX0_openWays 25 = .ok (.ifCond .le 31, 3) := by decide +kernel
theorem dX0_openWays_28 : decode cX0_openWays 28 = .ok (.aload_n 0, 1) := by decide +kernel
theorem dX0_openWays_29 : decode cX0_openWays 29 = .ok (.iload_n 1, 1) := by decide +kernel
theorem dX0_openWays_30 : decode cX0_openWays 30 = .ok (.iload 4, 2) := by decide +kernel
theorem dX0_openWays_32 : decode cX0_openWays 32 = .ok (.ior, 1) := by decide +kernel
theorem dX0_openWays_33 : decode cX0_openWays 33 = .ok (.invokevirtual 98, 3) := by decide +kernel
theorem dX0_openWays_36 : decode cX0_openWays 36 = .ok (.ifCond .eq 6, 3) := by decide +kernel
theorem dX0_openWays_39 : decode cX0_openWays 39 = .ok (.iinc 3 1, 3) := by decide +kernel
theorem dX0_openWays_42 : decode cX0_openWays 42 = .ok (.iload 4, 2) := by decide +kernel
theorem dX0_openWays_44 : decode cX0_openWays 44 = .ok (.iconst 1, 1) := by decide +kernel
theorem dX0_openWays_45 : decode cX0_openWays 45 = .ok (.isub, 1) := by decide +kernel
theorem dX0_openWays_46 : decode cX0_openWays 46 = .ok (.iload_n 2, 1) := by decide +kernel
theorem dX0_openWays_47 : decode cX0_openWays 47 = .ok (.iand, 1) := by decide +kernel
theorem dX0_openWays_48 : decode cX0_openWays 48 = .ok (.istore 4, 2) := by decide +kernel
theorem dX0_openWays_50 : decode cX0_openWays 50 = .ok (.iinc 5 (-1), 3) := by decide +kernel
theorem dX0_openWays_53 : decode cX0_openWays 53 = .ok (.goto (-30), 3) := by decide +kernel
theorem dX0_openWays_56 : decode cX0_openWays 56 = .ok (.iload_n 3, 1) := by decide +kernel
theorem dX0_openWays_57 : decode cX0_openWays 57 = .ok (.ireturn, 1) := by decide +kernel
theorem dX1_init_0 : decode cX1_init 0 = .ok (.aload_n 0, 1) := by decide +kernel
theorem dX1_init_1 : decode cX1_init 1 = .ok (.invokespecial 3, 3) := by decide +kernel
theorem dX1_init_4 : decode cX1_init 4 = .ok (.aload_n 0, 1) := by decide +kernel
theorem dX1_init_5 : decode cX1_init 5 = .ok (.bipush 8, 2) := by decide +kernel
theorem dX1_init_7 : decode cX1_init 7 = .ok (.newarray .int, 2) := by decide +kernel
theorem dX1_init_9 : decode cX1_init 9 = .ok (.putfield 9, 3) := by decide +kernel
theorem dX1_init_12 : decode cX1_init 12 = .ok (.aload_n 0, 1) := by decide +kernel
theorem dX1_init_13 : decode cX1_init 13 = .ok (.bipush 8, 2) := by decide +kernel
theorem dX1_init_15 : decode cX1_init 15 = .ok (.newarray .int, 2) := by decide +kernel
theorem dX1_init_17 : decode cX1_init 17 = .ok (.putfield 15, 3) := by decide +kernel
theorem dX1_init_20 : decode cX1_init 20 = .ok (.aload_n 0, 1) := by decide +kernel
theorem dX1_init_21 : decode cX1_init 21 = .ok (.bipush 8, 2) := by decide +kernel
theorem dX1_init_23 : decode cX1_init 23 = .ok (.newarray .int, 2) := by decide +kernel
theorem dX1_init_25 : decode cX1_init 25 = .ok (.putfield 18, 3) := by decide +kernel
theorem dX1_init_28 : decode cX1_init 28 = .ok (.aload_n 0, 1) := by decide +kernel
theorem dX1_init_29 : decode cX1_init 29 = .ok (.iconst 0, 1) := by decide +kernel
theorem dX1_init_30 : decode cX1_init 30 = .ok (.putfield 21, 3) := by decide +kernel
theorem dX1_init_33 : decode cX1_init 33 = .ok (.return_, 1) := by decide +kernel
theorem dX1_addOne_0 : decode cX1_addOne 0 = .ok (.aload_n 0, 1) := by decide +kernel
theorem dX1_addOne_1 : decode cX1_addOne 1 = .ok (.getfield 21, 3) := by decide +kernel
theorem dX1_addOne_4 : decode cX1_addOne 4 = .ok (.bipush 8, 2) := by decide +kernel
theorem dX1_addOne_6 : decode cX1_addOne 6 = .ok (.if_icmp .lt 6, 3) := by decide +kernel
theorem dX1_addOne_9 : decode cX1_addOne 9 = .ok (.bipush (-4), 2) := by decide +kernel
theorem dX1_addOne_11 : decode cX1_addOne 11 = .ok (.ireturn, 1) := by decide +kernel
theorem dX1_addOne_12 : decode cX1_addOne 12 = .ok (.aload_n 0, 1) := by decide +kernel
theorem dX1_addOne_13 : decode cX1_addOne 13 = .ok (.getfield 9, 3) := by decide +kernel
theorem dX1_addOne_16 : decode cX1_addOne 16 = .ok (.aload_n 0, 1) := by decide +kernel
theorem dX1_addOne_17 : decode cX1_addOne 17 = .ok (.getfield 21, 3) := by decide +kernel
theorem dX1_addOne_20 : decode cX1_addOne 20 = .ok (.iload_n 1, 1) := by decide +kernel
theorem dX1_addOne_21 : decode cX1_addOne 21 = .ok (.iastore, 1) := by decide +kernel
theorem dX1_addOne_22 : decode cX1_addOne 22 = .ok (.aload_n 0, 1) := by decide +kernel
theorem dX1_addOne_23 : decode cX1_addOne 23 = .ok (.getfield 15, 3) := by decide +kernel
theorem dX1_addOne_26 : decode cX1_addOne 26 = .ok (.aload_n 0, 1) := by decide +kernel
theorem dX1_addOne_27 : decode cX1_addOne 27 = .ok (.getfield 21, 3) := by decide +kernel
theorem dX1_addOne_30 : decode cX1_addOne 30 = .ok (.iload_n 2, 1) := by decide +kernel
theorem dX1_addOne_31 : decode cX1_addOne 31 = .ok (.iastore, 1) := by decide +kernel
theorem dX1_addOne_32 : decode cX1_addOne 32 = .ok (.aload_n 0, 1) := by decide +kernel
theorem dX1_addOne_33 : decode cX1_addOne 33 = .ok (.getfield 18, 3) := by decide +kernel
theorem dX1_addOne_36 : decode cX1_addOne 36 = .ok (.aload_n 0, 1) := by decide +kernel
theorem dX1_addOne_37 : decode cX1_addOne 37 = .ok (.getfield 21, 3) := by decide +kernel
theorem dX1_addOne_40 : decode cX1_addOne 40 = .ok (.iload_n 3, 1) := by decide +kernel
theorem dX1_addOne_41 : decode cX1_addOne 41 = .ok (.iastore, 1) := by decide +kernel
theorem dX1_addOne_42 : decode cX1_addOne 42 = .ok (.aload_n 0, 1) := by decide +kernel
theorem dX1_addOne_43 : decode cX1_addOne 43 = .ok (.dup, 1) := by decide +kernel
theorem dX1_addOne_44 : decode cX1_addOne 44 = .ok (.getfield 21, 3) := by decide +kernel
theorem dX1_addOne_47 : decode cX1_addOne 47 = .ok (.iconst 1, 1) := by decide +kernel
theorem dX1_addOne_48 : decode cX1_addOne 48 = .ok (.iadd, 1) := by decide +kernel
theorem dX1_addOne_49 : decode cX1_addOne 49 = .ok (.putfield 21, 3) := by decide +kernel
theorem dX1_addOne_52 : decode cX1_addOne 52 = .ok (.aload_n 0, 1) := by decide +kernel
theorem dX1_addOne_53 : decode cX1_addOne 53 = .ok (.getfield 21, 3) := by decide +kernel
theorem dX1_addOne_56 : decode cX1_addOne 56 = .ok (.iconst 1, 1) := by decide +kernel
theorem dX1_addOne_57 : decode cX1_addOne 57 = .ok (.isub, 1) := by decide +kernel
theorem dX1_addOne_58 : decode cX1_addOne 58 = .ok (.ireturn, 1) := by decide +kernel
theorem dX1_areSoIn_0 : decode cX1_areSoIn 0 = .ok (.iconst 0, 1) := by decide +kernel
theorem dX1_areSoIn_1 : decode cX1_areSoIn 1 = .ok (.istore_n 2, 1) := by decide +kernel
theorem dX1_areSoIn_2 : decode cX1_areSoIn 2 = .ok (.iload_n 2, 1) := by decide +kernel
theorem dX1_areSoIn_3 : decode cX1_areSoIn 3 = .ok (.aload_n 0, 1) := by decide +kernel
theorem dX1_areSoIn_4 : decode cX1_areSoIn 4 = .ok (.getfield 21, 3) := by decide +kernel
theorem dX1_areSoIn_7 : decode cX1_areSoIn 7 = .ok (.if_icmp .ge 47, 3) := by decide +kernel
theorem dX1_areSoIn_10 : decode cX1_areSoIn 10 = .ok (.aload_n 1, 1) := by decide +kernel
theorem dX1_areSoIn_11 : decode cX1_areSoIn 11 = .ok (.aload_n 0, 1) := by decide +kernel
theorem dX1_areSoIn_12 : decode cX1_areSoIn 12 = .ok (.getfield 9, 3) := by decide +kernel
theorem dX1_areSoIn_15 : decode cX1_areSoIn 15 = .ok (.iload_n 2, 1) := by decide +kernel
theorem dX1_areSoIn_16 : decode cX1_areSoIn 16 = .ok (.iaload, 1) := by decide +kernel
theorem dX1_areSoIn_17 : decode cX1_areSoIn 17 = .ok (.aload_n 0, 1) := by decide +kernel
theorem dX1_areSoIn_18 : decode cX1_areSoIn 18 = .ok (.getfield 15, 3) := by decide +kernel
theorem dX1_areSoIn_21 : decode cX1_areSoIn 21 = .ok (.iload_n 2, 1) := by decide +kernel
theorem dX1_areSoIn_22 : decode cX1_areSoIn 22 = .ok (.iaload, 1) := by decide +kernel
theorem dX1_areSoIn_23 : decode cX1_areSoIn 23 = .ok (.invokevirtual 25, 3) := by decide +kernel
theorem dX1_areSoIn_26 : decode cX1_areSoIn 26 = .ok (.istore_n 3, 1) := by decide +kernel
theorem dX1_areSoIn_27 : decode cX1_areSoIn 27 = .ok (.iload_n 3, 1) := by decide +kernel
theorem dX1_areSoIn_28 : decode cX1_areSoIn 28 = .ok (.aload_n 0, 1) := by decide +kernel
theorem dX1_areSoIn_29 : decode cX1_areSoIn 29 = .ok (.getfield 18, 3) := by decide +kernel
theorem dX1_areSoIn_32 : decode cX1_areSoIn 32 = .ok (.iload_n 2, 1) := by decide +kernel
theorem dX1_areSoIn_33 : decode cX1_areSoIn 33 = .ok (.iaload, 1) := by decide +kernel
theorem dX1_areSoIn_34 : decode cX1_areSoIn 34 = .ok (.iconst 1, 1) := by decide +kernel
theorem dX1_areSoIn_35 : decode cX1_areSoIn 35 = .ok (.if_icmp .ne 7, 3) := by decide +kernel
theorem dX1_areSoIn_38 : decode cX1_areSoIn 38 = .ok (.iconst 1, 1) := by decide +kernel
theorem dX1_areSoIn_39 : decode cX1_areSoIn 39 = .ok (.goto 4, 3) := by decide +kernel
theorem dX1_areSoIn_42 : decode cX1_areSoIn 42 = .ok (.iconst 0, 1) := by decide +kernel
theorem dX1_areSoIn_43 : decode cX1_areSoIn 43 = .ok (.if_icmp .eq 5, 3) := by decide +kernel
theorem dX1_areSoIn_46 : decode cX1_areSoIn 46 = .ok (.iconst 0, 1) := by decide +kernel
theorem dX1_areSoIn_47 : decode cX1_areSoIn 47 = .ok (.ireturn, 1) := by decide +kernel
theorem dX1_areSoIn_48 : decode cX1_areSoIn 48 = .ok (.iinc 2 1, 3) := by decide +kernel
theorem dX1_areSoIn_51 : decode cX1_areSoIn 51 = .ok (.goto (-49), 3) := by decide +kernel
theorem dX1_areSoIn_54 : decode cX1_areSoIn 54 = .ok (.iconst 1, 1) := by decide +kernel
theorem dX1_areSoIn_55 : decode cX1_areSoIn 55 = .ok (.ireturn, 1) := by decide +kernel
theorem dX2_init_0 : decode cX2_init 0 = .ok (.aload_n 0, 1) := by decide +kernel
theorem dX2_init_1 : decode cX2_init 1 = .ok (.invokespecial 3, 3) := by decide +kernel
theorem dX2_init_4 : decode cX2_init 4 = .ok (.aload_n 0, 1) := by decide +kernel
theorem dX2_init_5 : decode cX2_init 5 = .ok (.bipush 60, 2) := by decide +kernel
theorem dX2_init_7 : decode cX2_init 7 = .ok (.newarray .int, 2) := by decide +kernel
theorem dX2_init_9 : decode cX2_init 9 = .ok (.putfield 9, 3) := by decide +kernel
theorem dX2_init_12 : decode cX2_init 12 = .ok (.aload_n 0, 1) := by decide +kernel
theorem dX2_init_13 : decode cX2_init 13 = .ok (.iconst (-1), 1) := by decide +kernel
theorem dX2_init_14 : decode cX2_init 14 = .ok (.putfield 15, 3) := by decide +kernel
theorem dX2_init_17 : decode cX2_init 17 = .ok (.aload_n 0, 1) := by decide +kernel
theorem dX2_init_18 : decode cX2_init 18 = .ok (.iconst 0, 1) := by decide +kernel
theorem dX2_init_19 : decode cX2_init 19 = .ok (.putfield 19, 3) := by decide +kernel
theorem dX2_init_22 : decode cX2_init 22 = .ok (.return_, 1) := by decide +kernel
theorem dX2_isNothing_0 : decode cX2_isNothing 0 = .ok (.aload_n 0, 1) := by decide +kernel
theorem dX2_isNothing_1 : decode cX2_isNothing 1 = .ok (.getfield 15, 3) := by decide +kernel
theorem dX2_isNothing_4 : decode cX2_isNothing 4 = .ok (.iconst (-1), 1) := by decide +kernel
theorem dX2_isNothing_5 : decode cX2_isNothing 5 = .ok (.if_icmp .ne 7, 3) := by decide +kernel
theorem dX2_isNothing_8 : decode cX2_isNothing 8 = .ok (.iconst 1, 1) := by decide +kernel
theorem dX2_isNothing_9 : decode cX2_isNothing 9 = .ok (.goto 4, 3) := by decide +kernel
theorem dX2_isNothing_12 : decode cX2_isNothing 12 = .ok (.iconst 0, 1) := by decide +kernel
theorem dX2_isNothing_13 : decode cX2_isNothing 13 = .ok (.ireturn, 1) := by decide +kernel
theorem dX2_becomeNothing_0 : decode cX2_becomeNothing 0 = .ok (.aload_n 0, 1) := by decide +kernel
theorem dX2_becomeNothing_1 : decode cX2_becomeNothing 1 = .ok (.iconst (-1), 1) := by decide +kernel
theorem dX2_becomeNothing_2 : decode cX2_becomeNothing 2 = .ok (.putfield 15, 3) := by decide +kernel
theorem dX2_becomeNothing_5 : decode cX2_becomeNothing 5 = .ok (.aload_n 0, 1) := by decide +kernel
theorem dX2_becomeNothing_6 : decode cX2_becomeNothing 6 = .ok (.iconst 0, 1) := by decide +kernel
theorem dX2_becomeNothing_7 : decode cX2_becomeNothing 7 = .ok (.putfield 19, 3) := by decide +kernel
theorem dX2_becomeNothing_10 : decode cX2_becomeNothing 10 = .ok (.return_, 1) := by decide +kernel
theorem dX2_becomeRow_0 : decode cX2_becomeRow 0 = .ok (.aload_n 0, 1) := by decide +kernel
theorem dX2_becomeRow_1 : decode cX2_becomeRow 1 = .ok (.iload_n 1, 1) := by decide +kernel
theorem dX2_becomeRow_2 : decode cX2_becomeRow 2 = .ok (.putfield 15, 3) := by decide +kernel
theorem dX2_becomeRow_5 : decode cX2_becomeRow 5 = .ok (.aload_n 0, 1) := by decide +kernel
theorem dX2_becomeRow_6 : decode cX2_becomeRow 6 = .ok (.iload_n 2, 1) := by decide +kernel
theorem dX2_becomeRow_7 : decode cX2_becomeRow 7 = .ok (.putfield 19, 3) := by decide +kernel
theorem dX2_becomeRow_10 : decode cX2_becomeRow 10 = .ok (.iconst 0, 1) := by decide +kernel
theorem dX2_becomeRow_11 : decode cX2_becomeRow 11 = .ok (.istore_n 3, 1) := by decide +kernel
theorem dX2_becomeRow_12 : decode cX2_becomeRow 12 = .ok (.iload_n 3, 1) := by decide +kernel
theorem dX2_becomeRow_13 : decode cX2_becomeRow 13 = .ok (.bipush 60, 2) := by decide +kernel
theorem dX2_becomeRow_15 : decode cX2_becomeRow 15 = .ok (.if_icmp .ge 16, 3) := by decide +kernel
theorem dX2_becomeRow_18 : decode cX2_becomeRow 18 = .ok (.aload_n 0, 1) := by decide +kernel
theorem dX2_becomeRow_19 : decode cX2_becomeRow 19 = .ok (.getfield 9, 3) := by decide +kernel
theorem dX2_becomeRow_22 : decode cX2_becomeRow 22 = .ok (.iload_n 3, 1) := by decide +kernel
theorem dX2_becomeRow_23 : decode cX2_becomeRow 23 = .ok (.iconst 0, 1) := by decide +kernel
theorem dX2_becomeRow_24 : decode cX2_becomeRow 24 = .ok (.iastore, 1) := by decide +kernel
theorem dX2_becomeRow_25 : decode cX2_becomeRow 25 = .ok (.iinc 3 1, 3) := by decide +kernel
theorem dX2_becomeRow_28 : decode cX2_becomeRow 28 = .ok (.goto (-16), 3) := by decide +kernel
theorem dX2_becomeRow_31 : decode cX2_becomeRow 31 = .ok (.return_, 1) := by decide +kernel
theorem dX2_faultAs_0 : decode cX2_faultAs 0 = .ok (.aload_n 0, 1) := by decide +kernel
theorem dX2_faultAs_1 : decode cX2_faultAs 1 = .ok (.invokevirtual 22, 3) := by decide +kernel
theorem dX2_faultAs_4 : decode cX2_faultAs 4 = .ok (.ifCond .eq 5, 3) := by decide +kernel
theorem dX2_faultAs_7 : decode cX2_faultAs 7 = .ok (.iconst 1, 1) := by decide +kernel
theorem dX2_faultAs_8 : decode cX2_faultAs 8 = .ok (.ireturn, 1) := by decide +kernel
theorem dX2_faultAs_9 : decode cX2_faultAs 9 = .ok (.aload_n 0, 1) := by decide +kernel
theorem dX2_faultAs_10 : decode cX2_faultAs 10 = .ok (.getfield 15, 3) := by decide +kernel
theorem dX2_faultAs_13 : decode cX2_faultAs 13 = .ok (.iload_n 1, 1) := by decide +kernel
theorem dX2_faultAs_14 : decode cX2_faultAs 14 = .ok (.if_icmp .ne 7, 3) := by decide +kernel
theorem dX2_faultAs_17 : decode cX2_faultAs 17 = .ok (.iconst 0, 1) := by decide +kernel
theorem dX2_faultAs_18 : decode cX2_faultAs 18 = .ok (.goto 4, 3) := by decide +kernel
theorem dX2_faultAs_21 : decode cX2_faultAs 21 = .ok (.iconst 2, 1) := by decide +kernel
theorem dX2_faultAs_22 : decode cX2_faultAs 22 = .ok (.ireturn, 1) := by decide +kernel
theorem dX2_hasPlace_0 : decode cX2_hasPlace 0 = .ok (.iload_n 1, 1) := by decide +kernel
theorem dX2_hasPlace_1 : decode cX2_hasPlace 1 = .ok (.ifCond .lt 15, 3) := by decide +kernel
theorem dX2_hasPlace_4 : decode cX2_hasPlace 4 = .ok (.iload_n 1, 1) := by decide +kernel
theorem dX2_hasPlace_5 : decode cX2_hasPlace 5 = .ok (.aload_n 0, 1) := by decide +kernel
theorem dX2_hasPlace_6 : decode cX2_hasPlace 6 = .ok (.getfield 19, 3) := by decide +kernel
theorem dX2_hasPlace_9 : decode cX2_hasPlace 9 = .ok (.if_icmp .ge 7, 3) := by decide +kernel
theorem dX2_hasPlace_12 : decode cX2_hasPlace 12 = .ok (.iconst 1, 1) := by decide +kernel
theorem dX2_hasPlace_13 : decode cX2_hasPlace 13 = .ok (.goto 4, 3) := by decide +kernel
theorem dX2_hasPlace_16 : decode cX2_hasPlace 16 = .ok (.iconst 0, 1) := by decide +kernel
theorem dX2_hasPlace_17 : decode cX2_hasPlace 17 = .ok (.ireturn, 1) := by decide +kernel
theorem dX2_has_0 : decode cX2_has 0 = .ok (.iload_n 1, 1) := by decide +kernel
theorem dX2_has_1 : decode cX2_has 1 = .ok (.ifCond .lt 29, 3) := by decide +kernel
theorem dX2_has_4 : decode cX2_has 4 = .ok (.iload_n 1, 1) := by decide +kernel
theorem dX2_has_5 : decode cX2_has 5 = .ok (.aload_n 0, 1) := by decide +kernel
theorem dX2_has_6 : decode cX2_has 6 = .ok (.getfield 19, 3) := by decide +kernel
theorem dX2_has_9 : decode cX2_has 9 = .ok (.if_icmp .gt 21, 3) := by decide +kernel
theorem dX2_has_12 : decode cX2_has 12 = .ok (.iload_n 2, 1) := by decide +kernel
theorem dX2_has_13 : decode cX2_has 13 = .ok (.ifCond .lt 17, 3) := by decide +kernel
theorem dX2_has_16 : decode cX2_has 16 = .ok (.iload_n 2, 1) := by decide +kernel
theorem dX2_has_17 : decode cX2_has 17 = .ok (.aload_n 0, 1) := by decide +kernel
theorem dX2_has_18 : decode cX2_has 18 = .ok (.getfield 19, 3) := by decide +kernel
theorem dX2_has_21 : decode cX2_has 21 = .ok (.iload_n 1, 1) := by decide +kernel
theorem dX2_has_22 : decode cX2_has 22 = .ok (.isub, 1) := by decide +kernel
theorem dX2_has_23 : decode cX2_has 23 = .ok (.if_icmp .gt 7, 3) := by decide +kernel
theorem dX2_has_26 : decode cX2_has 26 = .ok (.iconst 1, 1) := by decide +kernel
theorem dX2_has_27 : decode cX2_has 27 = .ok (.goto 4, 3) := by decide +kernel
theorem dX2_has_30 : decode cX2_has 30 = .ok (.iconst 0, 1) := by decide +kernel
theorem dX2_has_31 : decode cX2_has 31 = .ok (.ireturn, 1) := by decide +kernel
theorem dX2_codeAt_0 : decode cX2_codeAt 0 = .ok (.aload_n 0, 1) := by decide +kernel
theorem dX2_codeAt_1 : decode cX2_codeAt 1 = .ok (.iload_n 1, 1) := by decide +kernel
theorem dX2_codeAt_2 : decode cX2_codeAt 2 = .ok (.invokevirtual 26, 3) := by decide +kernel
theorem dX2_codeAt_5 : decode cX2_codeAt 5 = .ok (.ifCond .eq 12, 3) := by decide +kernel
theorem dX2_codeAt_8 : decode cX2_codeAt 8 = .ok (.aload_n 0, 1) := by decide +kernel
theorem dX2_codeAt_9 : decode cX2_codeAt 9 = .ok (.getfield 9, 3) := by decide +kernel
theorem dX2_codeAt_12 : decode cX2_codeAt 12 = .ok (.iload_n 1, 1) := by decide +kernel
theorem dX2_codeAt_13 : decode cX2_codeAt 13 = .ok (.iaload, 1) := by decide +kernel
theorem dX2_codeAt_14 : decode cX2_codeAt 14 = .ok (.goto 4, 3) := by decide +kernel
theorem dX2_codeAt_17 : decode cX2_codeAt 17 = .ok (.iconst 0, 1) := by decide +kernel
theorem dX2_codeAt_18 : decode cX2_codeAt 18 = .ok (.ireturn, 1) := by decide +kernel
theorem dX2_setAt_0 : decode cX2_setAt 0 = .ok (.aload_n 0, 1) := by decide +kernel
theorem dX2_setAt_1 : decode cX2_setAt 1 = .ok (.iload_n 1, 1) := by decide +kernel
theorem dX2_setAt_2 : decode cX2_setAt 2 = .ok (.invokevirtual 26, 3) := by decide +kernel
theorem dX2_setAt_5 : decode cX2_setAt 5 = .ok (.ifCond .eq 14, 3) := by decide +kernel
theorem dX2_setAt_8 : decode cX2_setAt 8 = .ok (.aload_n 0, 1) := by decide +kernel
theorem dX2_setAt_9 : decode cX2_setAt 9 = .ok (.getfield 9, 3) := by decide +kernel
theorem dX2_setAt_12 : decode cX2_setAt 12 = .ok (.iload_n 1, 1) := by decide +kernel
theorem dX2_setAt_13 : decode cX2_setAt 13 = .ok (.aload_n 0, 1) := by decide +kernel
theorem dX2_setAt_14 : decode cX2_setAt 14 = .ok (.iload_n 2, 1) := by decide +kernel
theorem dX2_setAt_15 : decode cX2_setAt 15 = .ok (.invokevirtual 30, 3) := by decide +kernel
theorem dX2_setAt_18 : decode cX2_setAt 18 = .ok (.iastore, 1) := by decide +kernel
theorem dX2_setAt_19 : decode cX2_setAt 19 = .ok (.return_, 1) := by decide +kernel
theorem dX2_cutToLane_0 : decode cX2_cutToLane 0 = .ok (.aload_n 0, 1) := by decide +kernel
theorem dX2_cutToLane_1 : decode cX2_cutToLane 1 = .ok (.getfield 15, 3) := by decide +kernel
theorem dX2_cutToLane_4 : decode cX2_cutToLane 4 = .ok (.lookupswitch 34 #[(0, 28), (1, 31)], 28) := by decide +kernel
theorem dX2_cutToLane_32 : decode cX2_cutToLane 32 = .ok (.iload_n 1, 1) := by decide +kernel
theorem dX2_cutToLane_33 : decode cX2_cutToLane 33 = .ok (.i2b, 1) := by decide +kernel
theorem dX2_cutToLane_34 : decode cX2_cutToLane 34 = .ok (.ireturn, 1) := by decide +kernel
theorem dX2_cutToLane_35 : decode cX2_cutToLane 35 = .ok (.iload_n 1, 1) := by decide +kernel
theorem dX2_cutToLane_36 : decode cX2_cutToLane 36 = .ok (.i2s, 1) := by decide +kernel
theorem dX2_cutToLane_37 : decode cX2_cutToLane 37 = .ok (.ireturn, 1) := by decide +kernel
theorem dX2_cutToLane_38 : decode cX2_cutToLane 38 = .ok (.iload_n 1, 1) := by decide +kernel
theorem dX2_cutToLane_39 : decode cX2_cutToLane 39 = .ok (.ireturn, 1) := by decide +kernel
theorem dX3_init_0 : decode cX3_init 0 = .ok (.aload_n 0, 1) := by decide +kernel
theorem dX3_init_1 : decode cX3_init 1 = .ok (.invokespecial 3, 3) := by decide +kernel
theorem dX3_init_4 : decode cX3_init 4 = .ok (.aload_n 0, 1) := by decide +kernel
theorem dX3_init_5 : decode cX3_init 5 = .ok (.new 9, 3) := by decide +kernel
theorem dX3_init_8 : decode cX3_init 8 = .ok (.dup, 1) := by decide +kernel
theorem dX3_init_9 : decode cX3_init 9 = .ok (.invokespecial 11, 3) := by decide +kernel
theorem dX3_init_12 : decode cX3_init 12 = .ok (.putfield 12, 3) := by decide +kernel
theorem dX3_init_15 : decode cX3_init 15 = .ok (.aload_n 0, 1) := by decide +kernel
theorem dX3_init_16 : decode cX3_init 16 = .ok (.iconst 0, 1) := by decide +kernel
theorem dX3_init_17 : decode cX3_init 17 = .ok (.putfield 18, 3) := by decide +kernel
theorem dX3_init_20 : decode cX3_init 20 = .ok (.aload_n 0, 1) := by decide +kernel
theorem dX3_init_21 : decode cX3_init 21 = .ok (.bipush (-9), 2) := by decide +kernel
theorem dX3_init_23 : decode cX3_init 23 = .ok (.putfield 22, 3) := by decide +kernel
theorem dX3_init_26 : decode cX3_init 26 = .ok (.aload_n 0, 1) := by decide +kernel
theorem dX3_init_27 : decode cX3_init 27 = .ok (.bipush (-9), 2) := by decide +kernel
theorem dX3_init_29 : decode cX3_init 29 = .ok (.putfield 25, 3) := by decide +kernel
theorem dX3_init_32 : decode cX3_init 32 = .ok (.return_, 1) := by decide +kernel
theorem dX3_follow_0 : decode cX3_follow 0 = .ok (.aload_n 0, 1) := by decide +kernel
theorem dX3_follow_1 : decode cX3_follow 1 = .ok (.getfield 12, 3) := by decide +kernel
theorem dX3_follow_4 : decode cX3_follow 4 = .ok (.aload_n 1, 1) := by decide +kernel
theorem dX3_follow_5 : decode cX3_follow 5 = .ok (.invokevirtual 28, 3) := by decide +kernel
theorem dX3_follow_8 : decode cX3_follow 8 = .ok (.aload_n 0, 1) := by decide +kernel
theorem dX3_follow_9 : decode cX3_follow 9 = .ok (.iconst 0, 1) := by decide +kernel
theorem dX3_follow_10 : decode cX3_follow 10 = .ok (.putfield 18, 3) := by decide +kernel
theorem dX3_follow_13 : decode cX3_follow 13 = .ok (.aload_n 0, 1) := by decide +kernel
theorem dX3_follow_14 : decode cX3_follow 14 = .ok (.aload_n 0, 1) := by decide +kernel
theorem dX3_follow_15 : decode cX3_follow 15 = .ok (.getfield 12, 3) := by decide +kernel
theorem dX3_follow_18 : decode cX3_follow 18 = .ok (.aload_n 0, 1) := by decide +kernel
theorem dX3_follow_19 : decode cX3_follow 19 = .ok (.getfield 12, 3) := by decide +kernel
theorem dX3_follow_22 : decode cX3_follow 22 = .ok (.invokevirtual 32, 3) := by decide +kernel
theorem dX3_follow_25 : decode cX3_follow 25 = .ok (.invokevirtual 36, 3) := by decide +kernel
theorem dX3_follow_28 : decode cX3_follow 28 = .ok (.ifCond .eq 7, 3) := by decide +kernel
theorem dX3_follow_31 : decode cX3_follow 31 = .ok (.iconst 0, 1) := by decide +kernel
theorem dX3_follow_32 : decode cX3_follow 32 = .ok (.goto 5, 3) := by decide +kernel
theorem dX3_follow_35 : decode cX3_follow 35 = .ok (.bipush (-9), 2) := by decide +kernel
theorem dX3_follow_37 : decode cX3_follow 37 = .ok (.putfield 22, 3) := by decide +kernel
theorem dX3_follow_40 : decode cX3_follow 40 = .ok (.aload_n 0, 1) := by decide +kernel
theorem dX3_follow_41 : decode cX3_follow 41 = .ok (.bipush (-9), 2) := by decide +kernel
theorem dX3_follow_43 : decode cX3_follow 43 = .ok (.putfield 25, 3) := by decide +kernel
theorem dX3_follow_46 : decode cX3_follow 46 = .ok (.iconst 0, 1) := by decide +kernel
theorem dX3_follow_47 : decode cX3_follow 47 = .ok (.istore 5, 2) := by decide +kernel
theorem dX3_follow_49 : decode cX3_follow 49 = .ok (.iload 5, 2) := by decide +kernel
theorem dX3_follow_51 : decode cX3_follow 51 = .ok (.iload 4, 2) := by decide +kernel
theorem dX3_follow_53 : decode cX3_follow 53 = .ok (.if_icmp .ge 53, 3) := by decide +kernel
theorem dX3_follow_56 : decode cX3_follow 56 = .ok (.aload_n 0, 1) := by decide +kernel
theorem dX3_follow_57 : decode cX3_follow 57 = .ok (.getfield 25, 3) := by decide +kernel
theorem dX3_follow_60 : decode cX3_follow 60 = .ok (.bipush (-9), 2) := by decide +kernel
theorem dX3_follow_62 : decode cX3_follow 62 = .ok (.if_icmp .ne 44, 3) := by decide +kernel
theorem dX3_follow_65 : decode cX3_follow 65 = .ok (.aload_n 0, 1) := by decide +kernel
theorem dX3_follow_66 : decode cX3_follow 66 = .ok (.aload_n 2, 1) := by decide +kernel
theorem dX3_follow_67 : decode cX3_follow 67 = .ok (.iload_n 3, 1) := by decide +kernel
theorem dX3_follow_68 : decode cX3_follow 68 = .ok (.iconst 2, 1) := by decide +kernel
theorem dX3_follow_69 : decode cX3_follow 69 = .ok (.iload 5, 2) := by decide +kernel
theorem dX3_follow_71 : decode cX3_follow 71 = .ok (.imul, 1) := by decide +kernel
theorem dX3_follow_72 : decode cX3_follow 72 = .ok (.iadd, 1) := by decide +kernel
theorem dX3_follow_73 : decode cX3_follow 73 = .ok (.invokevirtual 40, 3) := by decide +kernel
theorem dX3_follow_76 : decode cX3_follow 76 = .ok (.aload_n 2, 1) := by decide +kernel
theorem dX3_follow_77 : decode cX3_follow 77 = .ok (.iload_n 3, 1) := by decide +kernel
theorem dX3_follow_78 : decode cX3_follow 78 = .ok (.iconst 2, 1) := by decide +kernel
theorem dX3_follow_79 : decode cX3_follow 79 = .ok (.iload 5, 2) := by decide +kernel
theorem dX3_follow_81 : decode cX3_follow 81 = .ok (.imul, 1) := by decide +kernel
theorem dX3_follow_82 : decode cX3_follow 82 = .ok (.iadd, 1) := by decide +kernel
theorem dX3_follow_83 : decode cX3_follow 83 = .ok (.iconst 1, 1) := by decide +kernel
theorem dX3_follow_84 : decode cX3_follow 84 = .ok (.iadd, 1) := by decide +kernel
theorem dX3_follow_85 : decode cX3_follow 85 = .ok (.invokevirtual 40, 3) := by decide +kernel
theorem dX3_follow_88 : decode cX3_follow 88 = .ok (.invokevirtual 46, 3) := by decide +kernel
theorem dX3_follow_91 : decode cX3_follow 91 = .ok (.ifCond .ne 9, 3) := by decide +kernel
theorem dX3_follow_94 : decode cX3_follow 94 = .ok (.aload_n 0, 1) := by decide +kernel
theorem dX3_follow_95 : decode cX3_follow 95 = .ok (.iload 5, 2) := by decide +kernel
theorem dX3_follow_97 : decode cX3_follow 97 = .ok (.putfield 25, 3) := by decide +kernel
theorem dX3_follow_100 : decode cX3_follow 100 = .ok (.iinc 5 1, 3) := by decide +kernel
theorem dX3_follow_103 : decode cX3_follow 103 = .ok (.goto (-54), 3) := by decide +kernel
theorem dX3_follow_106 : decode cX3_follow 106 = .ok (.return_, 1) := by decide +kernel
theorem dX3_canDo_0 : decode cX3_canDo 0 = .ok (.iload_n 1, 1) := by decide +kernel
theorem dX3_canDo_1 : decode cX3_canDo 1 = .ok (.iconst 1, 1) := by decide +kernel
theorem dX3_canDo_2 : decode cX3_canDo 2 = .ok (.if_icmp .ne 13, 3) := by decide +kernel
theorem dX3_canDo_5 : decode cX3_canDo 5 = .ok (.aload_n 0, 1) := by decide +kernel
theorem dX3_canDo_6 : decode cX3_canDo 6 = .ok (.getfield 12, 3) := by decide +kernel
theorem dX3_canDo_9 : decode cX3_canDo 9 = .ok (.iload_n 2, 1) := by decide +kernel
theorem dX3_canDo_10 : decode cX3_canDo 10 = .ok (.iconst 3, 1) := by decide +kernel
theorem dX3_canDo_11 : decode cX3_canDo 11 = .ok (.invokevirtual 50, 3) := by decide +kernel
theorem dX3_canDo_14 : decode cX3_canDo 14 = .ok (.ireturn, 1) := by decide +kernel
theorem dX3_canDo_15 : decode cX3_canDo 15 = .ok (.iload_n 1, 1) := by decide +kernel
theorem dX3_canDo_16 : decode cX3_canDo 16 = .ok (.iconst 2, 1) := by decide +kernel
theorem dX3_canDo_17 : decode cX3_canDo 17 = .ok (.if_icmp .ne 14, 3) := by decide +kernel
theorem dX3_canDo_20 : decode cX3_canDo 20 = .ok (.aload_n 0, 1) := by decide +kernel
theorem dX3_canDo_21 : decode cX3_canDo 21 = .ok (.getfield 12, 3) := by decide +kernel
theorem dX3_canDo_24 : decode cX3_canDo 24 = .ok (.iload_n 2, 1) := by decide +kernel
theorem dX3_canDo_25 : decode cX3_canDo 25 = .ok (.putfield 53, 3) := by decide +kernel
theorem dX3_canDo_28 : decode cX3_canDo 28 = .ok (.goto 8, 3) := by decide +kernel
theorem dX3_canDo_31 : decode cX3_canDo 31 = .ok (.aload_n 0, 1) := by decide +kernel
theorem dX3_canDo_32 : decode cX3_canDo 32 = .ok (.iload_n 2, 1) := by decide +kernel
theorem dX3_canDo_33 : decode cX3_canDo 33 = .ok (.invokevirtual 56, 3) := by decide +kernel
theorem dX3_canDo_36 : decode cX3_canDo 36 = .ok (.iconst 1, 1) := by decide +kernel
theorem dX3_canDo_37 : decode cX3_canDo 37 = .ok (.ireturn, 1) := by decide +kernel
theorem dX3_goHours_0 : decode cX3_goHours 0 = .ok (.iconst 0, 1) := by decide +kernel
theorem dX3_goHours_1 : decode cX3_goHours 1 = .ok (.istore_n 2, 1) := by decide +kernel
theorem dX3_goHours_2 : decode cX3_goHours 2 = .ok (.iload_n 2, 1) := by decide +kernel
theorem dX3_goHours_3 : decode cX3_goHours 3 = .ok (.iload_n 1, 1) := by decide +kernel
theorem dX3_goHours_4 : decode cX3_goHours 4 = .ok (.if_icmp .ge 61, 3) := by decide +kernel
theorem dX3_goHours_7 : decode cX3_goHours 7 = .ok (.aload_n 0, 1) := by decide +kernel
theorem dX3_goHours_8 : decode cX3_goHours 8 = .ok (.getfield 12, 3) := by decide +kernel
theorem dX3_goHours_11 : decode cX3_goHours 11 = .ok (.iconst 1, 1) := by decide +kernel
theorem dX3_goHours_12 : decode cX3_goHours 12 = .ok (.invokevirtual 60, 3) := by decide +kernel
theorem dX3_goHours_15 : decode cX3_goHours 15 = .ok (.aload_n 0, 1) := by decide +kernel
theorem dX3_goHours_16 : decode cX3_goHours 16 = .ok (.dup, 1) := by decide +kernel
theorem dX3_goHours_17 : decode cX3_goHours 17 = .ok (.getfield 18, 3) := by decide +kernel
theorem dX3_goHours_20 : decode cX3_goHours 20 = .ok (.iconst 1, 1) := by decide +kernel
theorem dX3_goHours_21 : decode cX3_goHours 21 = .ok (.iadd, 1) := by decide +kernel
theorem dX3_goHours_22 : decode cX3_goHours 22 = .ok (.putfield 18, 3) := by decide +kernel
theorem dX3_goHours_25 : decode cX3_goHours 25 = .ok (.aload_n 0, 1) := by decide +kernel
theorem dX3_goHours_26 : decode cX3_goHours 26 = .ok (.getfield 22, 3) := by decide +kernel
theorem dX3_goHours_29 : decode cX3_goHours 29 = .ok (.bipush (-9), 2) := by decide +kernel
theorem dX3_goHours_31 : decode cX3_goHours 31 = .ok (.if_icmp .ne 28, 3) := by decide +kernel
theorem dX3_goHours_34 : decode cX3_goHours 34 = .ok (.aload_n 0, 1) := by decide +kernel
theorem dX3_goHours_35 : decode cX3_goHours 35 = .ok (.getfield 12, 3) := by decide +kernel
theorem dX3_goHours_38 : decode cX3_goHours 38 = .ok (.aload_n 0, 1) := by decide +kernel
theorem dX3_goHours_39 : decode cX3_goHours 39 = .ok (.getfield 12, 3) := by decide +kernel
theorem dX3_goHours_42 : decode cX3_goHours 42 = .ok (.invokevirtual 32, 3) := by decide +kernel
theorem dX3_goHours_45 : decode cX3_goHours 45 = .ok (.invokevirtual 36, 3) := by decide +kernel
theorem dX3_goHours_48 : decode cX3_goHours 48 = .ok (.ifCond .eq 11, 3) := by decide +kernel
theorem dX3_goHours_51 : decode cX3_goHours 51 = .ok (.aload_n 0, 1) := by decide +kernel
theorem dX3_goHours_52 : decode cX3_goHours 52 = .ok (.aload_n 0, 1) := by decide +kernel
theorem dX3_goHours_53 : decode cX3_goHours 53 = .ok (.getfield 18, 3) := by decide +kernel
theorem dX3_goHours_56 : decode cX3_goHours 56 = .ok (.putfield 22, 3) := by decide +kernel
theorem dX3_goHours_59 : decode cX3_goHours 59 = .ok (.iinc 2 1, 3) := by decide +kernel
theorem dX3_goHours_62 : decode cX3_goHours 62 = .ok (.goto (-60), 3) := by decide +kernel
theorem dX3_goHours_65 : decode cX3_goHours 65 = .ok (.return_, 1) := by decide +kernel
theorem dX3_answerTo_0 : decode cX3_answerTo 0 = .ok (.iload_n 1, 1) := by decide +kernel
theorem dX3_answerTo_1 : decode cX3_answerTo 1 = .ok (.iconst 1, 1) := by decide +kernel
theorem dX3_answerTo_2 : decode cX3_answerTo 2 = .ok (.if_icmp .ne 8, 3) := by decide +kernel
theorem dX3_answerTo_5 : decode cX3_answerTo 5 = .ok (.aload_n 0, 1) := by decide +kernel
theorem dX3_answerTo_6 : decode cX3_answerTo 6 = .ok (.getfield 25, 3) := by decide +kernel
theorem dX3_answerTo_9 : decode cX3_answerTo 9 = .ok (.ireturn, 1) := by decide +kernel
theorem dX3_answerTo_10 : decode cX3_answerTo 10 = .ok (.aload_n 0, 1) := by decide +kernel
theorem dX3_answerTo_11 : decode cX3_answerTo 11 = .ok (.getfield 25, 3) := by decide +kernel
theorem dX3_answerTo_14 : decode cX3_answerTo 14 = .ok (.bipush (-9), 2) := by decide +kernel
theorem dX3_answerTo_16 : decode cX3_answerTo 16 = .ok (.if_icmp .eq 11, 3) := by decide +kernel
theorem dX3_answerTo_19 : decode cX3_answerTo 19 = .ok (.bipush (-100), 2) := by decide +kernel
theorem dX3_answerTo_21 : decode cX3_answerTo 21 = .ok (.aload_n 0, 1) := by decide +kernel
theorem dX3_answerTo_22 : decode cX3_answerTo 22 = .ok (.getfield 25, 3) := by decide +kernel
theorem dX3_answerTo_25 : decode cX3_answerTo 25 = .ok (.isub, 1) := by decide +kernel
theorem dX3_answerTo_26 : decode cX3_answerTo 26 = .ok (.ireturn, 1) := by decide +kernel
theorem dX3_answerTo_27 : decode cX3_answerTo 27 = .ok (.iload_n 1, 1) := by decide +kernel
theorem dX3_answerTo_28 : decode cX3_answerTo 28 = .ok (.tableswitch 80 0 4 #[36, 80, 44, 67, 75], 36) := by decide +kernel
theorem dX3_answerTo_64 : decode cX3_answerTo 64 = .ok (.aload_n 0, 1) := by decide +kernel
theorem dX3_answerTo_65 : decode cX3_answerTo 65 = .ok (.getfield 12, 3) := by decide +kernel
theorem dX3_answerTo_68 : decode cX3_answerTo 68 = .ok (.invokevirtual 32, 3) := by decide +kernel
theorem dX3_answerTo_71 : decode cX3_answerTo 71 = .ok (.ireturn, 1) := by decide +kernel
theorem dX3_answerTo_72 : decode cX3_answerTo 72 = .ok (.aload_n 0, 1) := by decide +kernel
theorem dX3_answerTo_73 : decode cX3_answerTo 73 = .ok (.getfield 12, 3) := by decide +kernel
theorem dX3_answerTo_76 : decode cX3_answerTo 76 = .ok (.aload_n 0, 1) := by decide +kernel
theorem dX3_answerTo_77 : decode cX3_answerTo 77 = .ok (.getfield 12, 3) := by decide +kernel
theorem dX3_answerTo_80 : decode cX3_answerTo 80 = .ok (.invokevirtual 32, 3) := by decide +kernel
theorem dX3_answerTo_83 : decode cX3_answerTo 83 = .ok (.invokevirtual 36, 3) := by decide +kernel
theorem dX3_answerTo_86 : decode cX3_answerTo 86 = .ok (.ifCond .eq 7, 3) := by decide +kernel
theorem dX3_answerTo_89 : decode cX3_answerTo 89 = .ok (.iconst 1, 1) := by decide +kernel
theorem dX3_answerTo_90 : decode cX3_answerTo 90 = .ok (.goto 4, 3) := by decide +kernel
theorem dX3_answerTo_93 : decode cX3_answerTo 93 = .ok (.iconst 0, 1) := by decide +kernel
theorem dX3_answerTo_94 : decode cX3_answerTo 94 = .ok (.ireturn, 1) := by decide +kernel
theorem dX3_answerTo_95 : decode cX3_answerTo 95 = .ok (.aload_n 0, 1) := by decide +kernel
theorem dX3_answerTo_96 : decode cX3_answerTo 96 = .ok (.getfield 12, 3) := by decide +kernel
theorem dX3_answerTo_99 : decode cX3_answerTo 99 = .ok (.invokevirtual 63, 3) := by decide +kernel
theorem dX3_answerTo_102 : decode cX3_answerTo 102 = .ok (.ireturn, 1) := by decide +kernel
theorem dX3_answerTo_103 : decode cX3_answerTo 103 = .ok (.aload_n 0, 1) := by decide +kernel
theorem dX3_answerTo_104 : decode cX3_answerTo 104 = .ok (.getfield 22, 3) := by decide +kernel
theorem dX3_answerTo_107 : decode cX3_answerTo 107 = .ok (.ireturn, 1) := by decide +kernel
theorem dX3_answerTo_108 : decode cX3_answerTo 108 = .ok (.aload_n 0, 1) := by decide +kernel
theorem dX3_answerTo_109 : decode cX3_answerTo 109 = .ok (.getfield 12, 3) := by decide +kernel
theorem dX3_answerTo_112 : decode cX3_answerTo 112 = .ok (.iload_n 1, 1) := by decide +kernel
theorem dX3_answerTo_113 : decode cX3_answerTo 113 = .ok (.bipush 10, 2) := by decide +kernel
theorem dX3_answerTo_115 : decode cX3_answerTo 115 = .ok (.isub, 1) := by decide +kernel
theorem dX3_answerTo_116 : decode cX3_answerTo 116 = .ok (.invokevirtual 66, 3) := by decide +kernel
theorem dX3_answerTo_119 : decode cX3_answerTo 119 = .ok (.ifCond .eq 18, 3) := by decide +kernel
theorem dX3_answerTo_122 : decode cX3_answerTo 122 = .ok (.aload_n 0, 1) := by decide +kernel
theorem dX3_answerTo_123 : decode cX3_answerTo 123 = .ok (.getfield 12, 3) := by decide +kernel
theorem dX3_answerTo_126 : decode cX3_answerTo 126 = .ok (.getfield 69, 3) := by decide +kernel
theorem dX3_answerTo_129 : decode cX3_answerTo 129 = .ok (.iload_n 1, 1) := by decide +kernel
theorem dX3_answerTo_130 : decode cX3_answerTo 130 = .ok (.bipush 10, 2) := by decide +kernel
theorem dX3_answerTo_132 : decode cX3_answerTo 132 = .ok (.isub, 1) := by decide +kernel
theorem dX3_answerTo_133 : decode cX3_answerTo 133 = .ok (.iaload, 1) := by decide +kernel
theorem dX3_answerTo_134 : decode cX3_answerTo 134 = .ok (.goto 5, 3) := by decide +kernel
theorem dX3_answerTo_137 : decode cX3_answerTo 137 = .ok (.bipush (-9), 2) := by decide +kernel
theorem dX3_answerTo_139 : decode cX3_answerTo 139 = .ok (.ireturn, 1) := by decide +kernel
theorem dJ6_lowestOneBit_0f7a4_0 : decode cJ6_lowestOneBit_0f7a4 0 = .ok (.iload_n 0, 1) := by decide +kernel
theorem dJ6_lowestOneBit_0f7a4_1 : decode cJ6_lowestOneBit_0f7a4 1 = .ok (.iload_n 0, 1) := by decide +kernel
theorem dJ6_lowestOneBit_0f7a4_2 : decode cJ6_lowestOneBit_0f7a4 2 = .ok (.ineg, 1) := by decide +kernel
theorem dJ6_lowestOneBit_0f7a4_3 : decode cJ6_lowestOneBit_0f7a4 3 = .ok (.iand, 1) := by decide +kernel
theorem dJ6_lowestOneBit_0f7a4_4 : decode cJ6_lowestOneBit_0f7a4 4 = .ok (.ireturn, 1) := by decide +kernel
theorem dJ6_bitCount_0f7a4_0 : decode cJ6_bitCount_0f7a4 0 = .ok (.iload_n 0, 1) := by decide +kernel
theorem dJ6_bitCount_0f7a4_1 : decode cJ6_bitCount_0f7a4 1 = .ok (.iload_n 0, 1) := by decide +kernel
theorem dJ6_bitCount_0f7a4_2 : decode cJ6_bitCount_0f7a4 2 = .ok (.iconst 1, 1) := by decide +kernel
theorem dJ6_bitCount_0f7a4_3 : decode cJ6_bitCount_0f7a4 3 = .ok (.iushr, 1) := by decide +kernel
theorem dJ6_bitCount_0f7a4_4 : decode cJ6_bitCount_0f7a4 4 = .ok (.ldc_w 265, 3) := by decide +kernel
theorem dJ6_bitCount_0f7a4_7 : decode cJ6_bitCount_0f7a4 7 = .ok (.iand, 1) := by decide +kernel
theorem dJ6_bitCount_0f7a4_8 : decode cJ6_bitCount_0f7a4 8 = .ok (.isub, 1) := by decide +kernel
theorem dJ6_bitCount_0f7a4_9 : decode cJ6_bitCount_0f7a4 9 = .ok (.istore_n 0, 1) := by decide +kernel
theorem dJ6_bitCount_0f7a4_10 : decode cJ6_bitCount_0f7a4 10 = .ok (.iload_n 0, 1) := by decide +kernel
theorem dJ6_bitCount_0f7a4_11 : decode cJ6_bitCount_0f7a4 11 = .ok (.ldc_w 266, 3) := by decide +kernel
theorem dJ6_bitCount_0f7a4_14 : decode cJ6_bitCount_0f7a4 14 = .ok (.iand, 1) := by decide +kernel
theorem dJ6_bitCount_0f7a4_15 : decode cJ6_bitCount_0f7a4 15 = .ok (.iload_n 0, 1) := by decide +kernel
theorem dJ6_bitCount_0f7a4_16 : decode cJ6_bitCount_0f7a4 16 = .ok (.iconst 2, 1) := by decide +kernel
theorem dJ6_bitCount_0f7a4_17 : decode cJ6_bitCount_0f7a4 17 = .ok (.iushr, 1) := by decide +kernel
theorem dJ6_bitCount_0f7a4_18 : decode cJ6_bitCount_0f7a4 18 = .ok (.ldc_w 266, 3) := by decide +kernel
theorem dJ6_bitCount_0f7a4_21 : decode cJ6_bitCount_0f7a4 21 = .ok (.iand, 1) := by decide +kernel
theorem dJ6_bitCount_0f7a4_22 : decode cJ6_bitCount_0f7a4 22 = .ok (.iadd, 1) := by decide +kernel
theorem dJ6_bitCount_0f7a4_23 : decode cJ6_bitCount_0f7a4 23 = .ok (.istore_n 0, 1) := by decide +kernel
theorem dJ6_bitCount_0f7a4_24 : decode cJ6_bitCount_0f7a4 24 = .ok (.iload_n 0, 1) := by decide +kernel
theorem dJ6_bitCount_0f7a4_25 : decode cJ6_bitCount_0f7a4 25 = .ok (.iload_n 0, 1) := by decide +kernel
theorem dJ6_bitCount_0f7a4_26 : decode cJ6_bitCount_0f7a4 26 = .ok (.iconst 4, 1) := by decide +kernel
theorem dJ6_bitCount_0f7a4_27 : decode cJ6_bitCount_0f7a4 27 = .ok (.iushr, 1) := by decide +kernel
theorem dJ6_bitCount_0f7a4_28 : decode cJ6_bitCount_0f7a4 28 = .ok (.iadd, 1) := by decide +kernel
theorem dJ6_bitCount_0f7a4_29 : decode cJ6_bitCount_0f7a4 29 = .ok (.ldc_w 267, 3) := by decide +kernel
theorem dJ6_bitCount_0f7a4_32 : decode cJ6_bitCount_0f7a4 32 = .ok (.iand, 1) := by decide +kernel
theorem dJ6_bitCount_0f7a4_33 : decode cJ6_bitCount_0f7a4 33 = .ok (.istore_n 0, 1) := by decide +kernel
theorem dJ6_bitCount_0f7a4_34 : decode cJ6_bitCount_0f7a4 34 = .ok (.iload_n 0, 1) := by decide +kernel
theorem dJ6_bitCount_0f7a4_35 : decode cJ6_bitCount_0f7a4 35 = .ok (.iload_n 0, 1) := by decide +kernel
theorem dJ6_bitCount_0f7a4_36 : decode cJ6_bitCount_0f7a4 36 = .ok (.bipush 8, 2) := by decide +kernel
theorem dJ6_bitCount_0f7a4_38 : decode cJ6_bitCount_0f7a4 38 = .ok (.iushr, 1) := by decide +kernel
theorem dJ6_bitCount_0f7a4_39 : decode cJ6_bitCount_0f7a4 39 = .ok (.iadd, 1) := by decide +kernel
theorem dJ6_bitCount_0f7a4_40 : decode cJ6_bitCount_0f7a4 40 = .ok (.istore_n 0, 1) := by decide +kernel
theorem dJ6_bitCount_0f7a4_41 : decode cJ6_bitCount_0f7a4 41 = .ok (.iload_n 0, 1) := by decide +kernel
theorem dJ6_bitCount_0f7a4_42 : decode cJ6_bitCount_0f7a4 42 = .ok (.iload_n 0, 1) := by decide +kernel
theorem dJ6_bitCount_0f7a4_43 : decode cJ6_bitCount_0f7a4 43 = .ok (.bipush 16, 2) := by decide +kernel
theorem dJ6_bitCount_0f7a4_45 : decode cJ6_bitCount_0f7a4 45 = .ok (.iushr, 1) := by decide +kernel
theorem dJ6_bitCount_0f7a4_46 : decode cJ6_bitCount_0f7a4 46 = .ok (.iadd, 1) := by decide +kernel
theorem dJ6_bitCount_0f7a4_47 : decode cJ6_bitCount_0f7a4 47 = .ok (.istore_n 0, 1) := by decide +kernel
theorem dJ6_bitCount_0f7a4_48 : decode cJ6_bitCount_0f7a4 48 = .ok (.iload_n 0, 1) := by decide +kernel
theorem dJ6_bitCount_0f7a4_49 : decode cJ6_bitCount_0f7a4 49 = .ok (.bipush 63, 2) := by decide +kernel
theorem dJ6_bitCount_0f7a4_51 : decode cJ6_bitCount_0f7a4 51 = .ok (.iand, 1) := by decide +kernel
theorem dJ6_bitCount_0f7a4_52 : decode cJ6_bitCount_0f7a4 52 = .ok (.ireturn, 1) := by decide +kernel
theorem dJ9_max_7cf53_0 : decode cJ9_max_7cf53 0 = .ok (.iload_n 0, 1) := by decide +kernel
theorem dJ9_max_7cf53_1 : decode cJ9_max_7cf53 1 = .ok (.iload_n 1, 1) := by decide +kernel
theorem dJ9_max_7cf53_2 : decode cJ9_max_7cf53 2 = .ok (.if_icmp .lt 7, 3) := by decide +kernel
theorem dJ9_max_7cf53_5 : decode cJ9_max_7cf53 5 = .ok (.iload_n 0, 1) := by decide +kernel
theorem dJ9_max_7cf53_6 : decode cJ9_max_7cf53 6 = .ok (.goto 4, 3) := by decide +kernel
theorem dJ9_max_7cf53_9 : decode cJ9_max_7cf53 9 = .ok (.iload_n 1, 1) := by decide +kernel
theorem dJ9_max_7cf53_10 : decode cJ9_max_7cf53 10 = .ok (.ireturn, 1) := by decide +kernel
theorem dJ9_min_7cf53_0 : decode cJ9_min_7cf53 0 = .ok (.iload_n 0, 1) := by decide +kernel
theorem dJ9_min_7cf53_1 : decode cJ9_min_7cf53 1 = .ok (.iload_n 1, 1) := by decide +kernel
theorem dJ9_min_7cf53_2 : decode cJ9_min_7cf53 2 = .ok (.if_icmp .gt 7, 3) := by decide +kernel
theorem dJ9_min_7cf53_5 : decode cJ9_min_7cf53 5 = .ok (.iload_n 0, 1) := by decide +kernel
theorem dJ9_min_7cf53_6 : decode cJ9_min_7cf53 6 = .ok (.goto 4, 3) := by decide +kernel
theorem dJ9_min_7cf53_9 : decode cJ9_min_7cf53 9 = .ok (.iload_n 1, 1) := by decide +kernel
theorem dJ9_min_7cf53_10 : decode cJ9_min_7cf53 10 = .ok (.ireturn, 1) := by decide +kernel
end
section
theorem dX4_init_0 : decode cX4_init 0 = .ok (.aload_n 0, 1) := by decide +kernel
theorem dX4_init_1 : decode cX4_init 1 = .ok (.invokespecial 3, 3) := by decide +kernel
theorem dX4_init_4 : decode cX4_init 4 = .ok (.aload_n 0, 1) := by decide +kernel
theorem dX4_init_5 : decode cX4_init 5 = .ok (.new 9, 3) := by decide +kernel
theorem dX4_init_8 : decode cX4_init 8 = .ok (.dup, 1) := by decide +kernel
theorem dX4_init_9 : decode cX4_init 9 = .ok (.invokespecial 11, 3) := by decide +kernel
theorem dX4_init_12 : decode cX4_init 12 = .ok (.putfield 12, 3) := by decide +kernel
theorem dX4_init_15 : decode cX4_init 15 = .ok (.aload_n 0, 1) := by decide +kernel
theorem dX4_init_16 : decode cX4_init 16 = .ok (.new 18, 3) := by decide +kernel
theorem dX4_init_19 : decode cX4_init 19 = .ok (.dup, 1) := by decide +kernel
theorem dX4_init_20 : decode cX4_init 20 = .ok (.invokespecial 20, 3) := by decide +kernel
theorem dX4_init_23 : decode cX4_init 23 = .ok (.putfield 21, 3) := by decide +kernel
theorem dX4_init_26 : decode cX4_init 26 = .ok (.aload_n 0, 1) := by decide +kernel
theorem dX4_init_27 : decode cX4_init 27 = .ok (.new 25, 3) := by decide +kernel
theorem dX4_init_30 : decode cX4_init 30 = .ok (.dup, 1) := by decide +kernel
theorem dX4_init_31 : decode cX4_init 31 = .ok (.invokespecial 27, 3) := by decide +kernel
theorem dX4_init_34 : decode cX4_init 34 = .ok (.putfield 28, 3) := by decide +kernel
theorem dX4_init_37 : decode cX4_init 37 = .ok (.aload_n 0, 1) := by decide +kernel
theorem dX4_init_38 : decode cX4_init 38 = .ok (.iconst 4, 1) := by decide +kernel
theorem dX4_init_39 : decode cX4_init 39 = .ok (.anewarray 32, 3) := by decide +kernel
theorem dX4_init_42 : decode cX4_init 42 = .ok (.putfield 34, 3) := by decide +kernel
theorem dX4_init_45 : decode cX4_init 45 = .ok (.iconst 0, 1) := by decide +kernel
theorem dX4_init_46 : decode cX4_init 46 = .ok (.istore_n 1, 1) := by decide +kernel
theorem dX4_init_47 : decode cX4_init 47 = .ok (.iload_n 1, 1) := by decide +kernel
theorem dX4_init_48 : decode cX4_init 48 = .ok (.iconst 4, 1) := by decide +kernel
theorem dX4_init_49 : decode cX4_init 49 = .ok (.if_icmp .ge 22, 3) := by decide +kernel
theorem dX4_init_52 : decode cX4_init 52 = .ok (.aload_n 0, 1) := by decide +kernel
theorem dX4_init_53 : decode cX4_init 53 = .ok (.getfield 34, 3) := by decide +kernel
theorem dX4_init_56 : decode cX4_init 56 = .ok (.iload_n 1, 1) := by decide +kernel
theorem dX4_init_57 : decode cX4_init 57 = .ok (.new 32, 3) := by decide +kernel
theorem dX4_init_60 : decode cX4_init 60 = .ok (.dup, 1) := by decide +kernel
theorem dX4_init_61 : decode cX4_init 61 = .ok (.invokespecial 38, 3) := by decide +kernel
theorem dX4_init_64 : decode cX4_init 64 = .ok (.aastore, 1) := by decide +kernel
theorem dX4_init_65 : decode cX4_init 65 = .ok (.iinc 1 1, 3) := by decide +kernel
theorem dX4_init_68 : decode cX4_init 68 = .ok (.goto (-21), 3) := by decide +kernel
theorem dX4_init_71 : decode cX4_init 71 = .ok (.aload_n 0, 1) := by decide +kernel
theorem dX4_init_72 : decode cX4_init 72 = .ok (.iconst 0, 1) := by decide +kernel
theorem dX4_init_73 : decode cX4_init 73 = .ok (.putfield 39, 3) := by decide +kernel
theorem dX4_init_76 : decode cX4_init 76 = .ok (.aload_n 0, 1) := by decide +kernel
theorem dX4_init_77 : decode cX4_init 77 = .ok (.iconst 0, 1) := by decide +kernel
theorem dX4_init_78 : decode cX4_init 78 = .ok (.putfield 43, 3) := by decide +kernel
theorem dX4_init_81 : decode cX4_init 81 = .ok (.aload_n 0, 1) := by decide +kernel
theorem dX4_init_82 : decode cX4_init 82 = .ok (.iconst 0, 1) := by decide +kernel
theorem dX4_init_83 : decode cX4_init 83 = .ok (.putfield 46, 3) := by decide +kernel
theorem dX4_init_86 : decode cX4_init 86 = .ok (.return_, 1) := by decide +kernel
theorem dX4_bay_0 : decode cX4_bay 0 = .ok (.aload_n 0, 1) := by decide +kernel
theorem dX4_bay_1 : decode cX4_bay 1 = .ok (.iconst 0, 1) := by decide +kernel
theorem dX4_bay_2 : decode cX4_bay 2 = .ok (.putfield 46, 3) := by decide +kernel
theorem dX4_bay_5 : decode cX4_bay 5 = .ok (.iload_n 1, 1) := by decide +kernel
theorem dX4_bay_6 : decode cX4_bay 6 = .ok (.invokestatic 49, 3) := by decide +kernel
theorem dX4_bay_9 : decode cX4_bay 9 = .ok (.ifCond .ne 5, 3) := by decide +kernel
theorem dX4_bay_12 : decode cX4_bay 12 = .ok (.iconst (-1), 1) := by decide +kernel
theorem dX4_bay_13 : decode cX4_bay 13 = .ok (.ireturn, 1) := by decide +kernel
theorem dX4_bay_14 : decode cX4_bay 14 = .ok (.iload_n 2, 1) := by decide +kernel
theorem dX4_bay_15 : decode cX4_bay 15 = .ok (.invokestatic 53, 3) := by decide +kernel
theorem dX4_bay_18 : decode cX4_bay 18 = .ok (.ifCond .ne 6, 3) := by decide +kernel
theorem dX4_bay_21 : decode cX4_bay 21 = .ok (.bipush (-2), 2) := by decide +kernel
theorem dX4_bay_23 : decode cX4_bay 23 = .ok (.ireturn, 1) := by decide +kernel
theorem dX4_bay_24 : decode cX4_bay 24 = .ok (.aload_n 0, 1) := by decide +kernel
theorem dX4_bay_25 : decode cX4_bay 25 = .ok (.getfield 34, 3) := by decide +kernel
theorem dX4_bay_28 : decode cX4_bay 28 = .ok (.iload_n 1, 1) := by decide +kernel
theorem dX4_bay_29 : decode cX4_bay 29 = .ok (.aaload, 1) := by decide +kernel
theorem dX4_bay_30 : decode cX4_bay 30 = .ok (.astore 5, 2) := by decide +kernel
theorem dX4_bay_32 : decode cX4_bay 32 = .ok (.aload 5, 2) := by decide +kernel
theorem dX4_bay_34 : decode cX4_bay 34 = .ok (.iload_n 2, 1) := by decide +kernel
theorem dX4_bay_35 : decode cX4_bay 35 = .ok (.invokevirtual 56, 3) := by decide +kernel
theorem dX4_bay_38 : decode cX4_bay 38 = .ok (.istore 6, 2) := by decide +kernel
theorem dX4_bay_40 : decode cX4_bay 40 = .ok (.iload 6, 2) := by decide +kernel
theorem dX4_bay_42 : decode cX4_bay 42 = .ok (.ifCond .ne 11, 3) := by decide +kernel
theorem dX4_bay_45 : decode cX4_bay 45 = .ok (.iload 4, 2) := by decide +kernel
theorem dX4_bay_47 : decode cX4_bay 47 = .ok (.ifCond .ge 6, 3) := by decide +kernel
theorem dX4_bay_50 : decode cX4_bay 50 = .ok (.iconst 4, 1) := by decide +kernel
theorem dX4_bay_51 : decode cX4_bay 51 = .ok (.istore 6, 2) := by decide +kernel
theorem dX4_bay_53 : decode cX4_bay 53 = .ok (.iload 6, 2) := by decide +kernel
theorem dX4_bay_55 : decode cX4_bay 55 = .ok (.ifCond .ne 17, 3) := by decide +kernel
theorem dX4_bay_58 : decode cX4_bay 58 = .ok (.aload 5, 2) := by decide +kernel
theorem dX4_bay_60 : decode cX4_bay 60 = .ok (.iload_n 3, 1) := by decide +kernel
theorem dX4_bay_61 : decode cX4_bay 61 = .ok (.iload 4, 2) := by decide +kernel
theorem dX4_bay_63 : decode cX4_bay 63 = .ok (.invokevirtual 60, 3) := by decide +kernel
theorem dX4_bay_66 : decode cX4_bay 66 = .ok (.ifCond .ne 6, 3) := by decide +kernel
theorem dX4_bay_69 : decode cX4_bay 69 = .ok (.iconst 3, 1) := by decide +kernel
theorem dX4_bay_70 : decode cX4_bay 70 = .ok (.istore 6, 2) := by decide +kernel
theorem dX4_bay_72 : decode cX4_bay 72 = .ok (.iload 6, 2) := by decide +kernel
theorem dX4_bay_74 : decode cX4_bay 74 = .ok (.ifCond .eq 10, 3) := by decide +kernel
theorem dX4_bay_77 : decode cX4_bay 77 = .ok (.aload_n 0, 1) := by decide +kernel
theorem dX4_bay_78 : decode cX4_bay 78 = .ok (.iload 6, 2) := by decide +kernel
theorem dX4_bay_80 : decode cX4_bay 80 = .ok (.invokevirtual 64, 3) := by decide +kernel
theorem dX4_bay_83 : decode cX4_bay 83 = .ok (.ireturn, 1) := by decide +kernel
theorem dX4_bay_84 : decode cX4_bay 84 = .ok (.aload 5, 2) := by decide +kernel
theorem dX4_bay_86 : decode cX4_bay 86 = .ok (.iload_n 3, 1) := by decide +kernel
theorem dX4_bay_87 : decode cX4_bay 87 = .ok (.iload 4, 2) := by decide +kernel
theorem dX4_bay_89 : decode cX4_bay 89 = .ok (.invokestatic 67, 3) := by decide +kernel
theorem dX4_bay_92 : decode cX4_bay 92 = .ok (.istore 7, 2) := by decide +kernel
theorem dX4_bay_94 : decode cX4_bay 94 = .ok (.iload 7, 2) := by decide +kernel
theorem dX4_bay_96 : decode cX4_bay 96 = .ok (.bipush (-9), 2) := by decide +kernel
theorem dX4_bay_98 : decode cX4_bay 98 = .ok (.if_icmp .eq 9, 3) := by decide +kernel
theorem dX4_bay_101 : decode cX4_bay 101 = .ok (.bipush (-100), 2) := by decide +kernel
theorem dX4_bay_103 : decode cX4_bay 103 = .ok (.iload 7, 2) := by decide +kernel
theorem dX4_bay_105 : decode cX4_bay 105 = .ok (.isub, 1) := by decide +kernel
theorem dX4_bay_106 : decode cX4_bay 106 = .ok (.ireturn, 1) := by decide +kernel
theorem dX4_bay_107 : decode cX4_bay 107 = .ok (.aload_n 0, 1) := by decide +kernel
theorem dX4_bay_108 : decode cX4_bay 108 = .ok (.getfield 12, 3) := by decide +kernel
theorem dX4_bay_111 : decode cX4_bay 111 = .ok (.aload 5, 2) := by decide +kernel
theorem dX4_bay_113 : decode cX4_bay 113 = .ok (.iload_n 3, 1) := by decide +kernel
theorem dX4_bay_114 : decode cX4_bay 114 = .ok (.invokevirtual 71, 3) := by decide +kernel
theorem dX4_bay_117 : decode cX4_bay 117 = .ok (.aload_n 0, 1) := by decide +kernel
theorem dX4_bay_118 : decode cX4_bay 118 = .ok (.iconst 0, 1) := by decide +kernel
theorem dX4_bay_119 : decode cX4_bay 119 = .ok (.putfield 39, 3) := by decide +kernel
theorem dX4_bay_122 : decode cX4_bay 122 = .ok (.aload_n 0, 1) := by decide +kernel
theorem dX4_bay_123 : decode cX4_bay 123 = .ok (.getfield 28, 3) := by decide +kernel
theorem dX4_bay_126 : decode cX4_bay 126 = .ok (.iconst 0, 1) := by decide +kernel
theorem dX4_bay_127 : decode cX4_bay 127 = .ok (.putfield 75, 3) := by decide +kernel
theorem dX4_bay_130 : decode cX4_bay 130 = .ok (.aload_n 0, 1) := by decide +kernel
theorem dX4_bay_131 : decode cX4_bay 131 = .ok (.getfield 12, 3) := by decide +kernel
theorem dX4_bay_134 : decode cX4_bay 134 = .ok (.getfield 78, 3) := by decide +kernel
theorem dX4_bay_137 : decode cX4_bay 137 = .ok (.ireturn, 1) := by decide +kernel
theorem dX4_ofCell_0 : decode cX4_ofCell 0 = .ok (.aload_n 0, 1) := by decide +kernel
theorem dX4_ofCell_1 : decode cX4_ofCell 1 = .ok (.getfield 12, 3) := by decide +kernel
theorem dX4_ofCell_4 : decode cX4_ofCell 4 = .ok (.iload_n 1, 1) := by decide +kernel
theorem dX4_ofCell_5 : decode cX4_ofCell 5 = .ok (.invokevirtual 81, 3) := by decide +kernel
theorem dX4_ofCell_8 : decode cX4_ofCell 8 = .ok (.ifCond .ne 5, 3) := by decide +kernel
theorem dX4_ofCell_11 : decode cX4_ofCell 11 = .ok (.iconst (-1), 1) := by decide +kernel
theorem dX4_ofCell_12 : decode cX4_ofCell 12 = .ok (.ireturn, 1) := by decide +kernel
theorem dX4_ofCell_13 : decode cX4_ofCell 13 = .ok (.iload_n 2, 1) := by decide +kernel
theorem dX4_ofCell_14 : decode cX4_ofCell 14 = .ok (.tableswitch 102 0 4 #[34, 44, 54, 63, 81], 34) := by decide +kernel
theorem dX4_ofCell_48 : decode cX4_ofCell 48 = .ok (.aload_n 0, 1) := by decide +kernel
theorem dX4_ofCell_49 : decode cX4_ofCell 49 = .ok (.getfield 12, 3) := by decide +kernel
theorem dX4_ofCell_52 : decode cX4_ofCell 52 = .ok (.getfield 84, 3) := by decide +kernel
theorem dX4_ofCell_55 : decode cX4_ofCell 55 = .ok (.iload_n 1, 1) := by decide +kernel
theorem dX4_ofCell_56 : decode cX4_ofCell 56 = .ok (.iaload, 1) := by decide +kernel
theorem dX4_ofCell_57 : decode cX4_ofCell 57 = .ok (.ireturn, 1) := by decide +kernel
theorem dX4_ofCell_58 : decode cX4_ofCell 58 = .ok (.aload_n 0, 1) := by decide +kernel
theorem dX4_ofCell_59 : decode cX4_ofCell 59 = .ok (.getfield 12, 3) := by decide +kernel
theorem dX4_ofCell_62 : decode cX4_ofCell 62 = .ok (.getfield 88, 3) := by decide +kernel
theorem dX4_ofCell_65 : decode cX4_ofCell 65 = .ok (.iload_n 1, 1) := by decide +kernel
theorem dX4_ofCell_66 : decode cX4_ofCell 66 = .ok (.iaload, 1) := by decide +kernel
theorem dX4_ofCell_67 : decode cX4_ofCell 67 = .ok (.ireturn, 1) := by decide +kernel
theorem dX4_ofCell_68 : decode cX4_ofCell 68 = .ok (.aload_n 0, 1) := by decide +kernel
theorem dX4_ofCell_69 : decode cX4_ofCell 69 = .ok (.getfield 12, 3) := by decide +kernel
theorem dX4_ofCell_72 : decode cX4_ofCell 72 = .ok (.iload_n 1, 1) := by decide +kernel
theorem dX4_ofCell_73 : decode cX4_ofCell 73 = .ok (.invokevirtual 91, 3) := by decide +kernel
theorem dX4_ofCell_76 : decode cX4_ofCell 76 = .ok (.ireturn, 1) := by decide +kernel
theorem dX4_ofCell_77 : decode cX4_ofCell 77 = .ok (.aload_n 0, 1) := by decide +kernel
theorem dX4_ofCell_78 : decode cX4_ofCell 78 = .ok (.getfield 12, 3) := by decide +kernel
theorem dX4_ofCell_81 : decode cX4_ofCell 81 = .ok (.getfield 88, 3) := by decide +kernel
theorem dX4_ofCell_84 : decode cX4_ofCell 84 = .ok (.iload_n 1, 1) := by decide +kernel
theorem dX4_ofCell_85 : decode cX4_ofCell 85 = .ok (.iaload, 1) := by decide +kernel
theorem dX4_ofCell_86 : decode cX4_ofCell 86 = .ok (.ifCond .ne 7, 3) := by decide +kernel
theorem dX4_ofCell_89 : decode cX4_ofCell 89 = .ok (.iconst 1, 1) := by decide +kernel
theorem dX4_ofCell_90 : decode cX4_ofCell 90 = .ok (.goto 4, 3) := by decide +kernel
theorem dX4_ofCell_93 : decode cX4_ofCell 93 = .ok (.iconst 0, 1) := by decide +kernel
theorem dX4_ofCell_94 : decode cX4_ofCell 94 = .ok (.ireturn, 1) := by decide +kernel
theorem dX4_ofCell_95 : decode cX4_ofCell 95 = .ok (.aload_n 0, 1) := by decide +kernel
theorem dX4_ofCell_96 : decode cX4_ofCell 96 = .ok (.getfield 12, 3) := by decide +kernel
theorem dX4_ofCell_99 : decode cX4_ofCell 99 = .ok (.iconst 1, 1) := by decide +kernel
theorem dX4_ofCell_100 : decode cX4_ofCell 100 = .ok (.iload_n 1, 1) := by decide +kernel
theorem dX4_ofCell_101 : decode cX4_ofCell 101 = .ok (.ishl, 1) := by decide +kernel
theorem dX4_ofCell_102 : decode cX4_ofCell 102 = .ok (.aload_n 0, 1) := by decide +kernel
theorem dX4_ofCell_103 : decode cX4_ofCell 103 = .ok (.getfield 12, 3) := by decide +kernel
theorem dX4_ofCell_106 : decode cX4_ofCell 106 = .ok (.invokevirtual 94, 3) := by decide +kernel
theorem dX4_ofCell_109 : decode cX4_ofCell 109 = .ok (.invokevirtual 98, 3) := by decide +kernel
theorem dX4_ofCell_112 : decode cX4_ofCell 112 = .ok (.invokestatic 102, 3) := by decide +kernel
theorem dX4_ofCell_115 : decode cX4_ofCell 115 = .ok (.ireturn, 1) := by decide +kernel
theorem dX4_ofCell_116 : decode cX4_ofCell 116 = .ok (.bipush (-2), 2) := by decide +kernel
theorem dX4_ofCell_118 : decode cX4_ofCell 118 = .ok (.ireturn, 1) := by decide +kernel
theorem dX4_shine_0 : decode cX4_shine 0 = .ok (.iload_n 1, 1) := by decide +kernel
theorem dX4_shine_1 : decode cX4_shine 1 = .ok (.iconst 0, 1) := by decide +kernel
theorem dX4_shine_2 : decode cX4_shine 2 = .ok (.bipush 9, 2) := by decide +kernel
theorem dX4_shine_4 : decode cX4_shine 4 = .ok (.invokestatic 107, 3) := by decide +kernel
theorem dX4_shine_7 : decode cX4_shine 7 = .ok (.ifCond .ne 6, 3) := by decide +kernel
theorem dX4_shine_10 : decode cX4_shine 10 = .ok (.bipush (-2), 2) := by decide +kernel
theorem dX4_shine_12 : decode cX4_shine 12 = .ok (.ireturn, 1) := by decide +kernel
theorem dX4_shine_13 : decode cX4_shine 13 = .ok (.aload_n 0, 1) := by decide +kernel
theorem dX4_shine_14 : decode cX4_shine 14 = .ok (.getfield 12, 3) := by decide +kernel
theorem dX4_shine_17 : decode cX4_shine 17 = .ok (.invokevirtual 111, 3) := by decide +kernel
theorem dX4_shine_20 : decode cX4_shine 20 = .ok (.ifCond .ne 6, 3) := by decide +kernel
theorem dX4_shine_23 : decode cX4_shine 23 = .ok (.bipush (-3), 2) := by decide +kernel
theorem dX4_shine_25 : decode cX4_shine 25 = .ok (.ireturn, 1) := by decide +kernel
theorem dX4_shine_26 : decode cX4_shine 26 = .ok (.aload_n 0, 1) := by decide +kernel
theorem dX4_shine_27 : decode cX4_shine 27 = .ok (.getfield 12, 3) := by decide +kernel
theorem dX4_shine_30 : decode cX4_shine 30 = .ok (.getfield 115, 3) := by decide +kernel
theorem dX4_shine_33 : decode cX4_shine 33 = .ok (.istore_n 2, 1) := by decide +kernel
theorem dX4_shine_34 : decode cX4_shine 34 = .ok (.aload_n 0, 1) := by decide +kernel
theorem dX4_shine_35 : decode cX4_shine 35 = .ok (.getfield 12, 3) := by decide +kernel
theorem dX4_shine_38 : decode cX4_shine 38 = .ok (.iload_n 1, 1) := by decide +kernel
theorem dX4_shine_39 : decode cX4_shine 39 = .ok (.putfield 115, 3) := by decide +kernel
theorem dX4_shine_42 : decode cX4_shine 42 = .ok (.iload_n 2, 1) := by decide +kernel
theorem dX4_shine_43 : decode cX4_shine 43 = .ok (.ireturn, 1) := by decide +kernel
theorem dX4_silt_0 : decode cX4_silt 0 = .ok (.aload_n 0, 1) := by decide +kernel
theorem dX4_silt_1 : decode cX4_silt 1 = .ok (.getfield 12, 3) := by decide +kernel
theorem dX4_silt_4 : decode cX4_silt 4 = .ok (.iload_n 1, 1) := by decide +kernel
theorem dX4_silt_5 : decode cX4_silt 5 = .ok (.invokevirtual 81, 3) := by decide +kernel
theorem dX4_silt_8 : decode cX4_silt 8 = .ok (.ifCond .ne 5, 3) := by decide +kernel
theorem dX4_silt_11 : decode cX4_silt 11 = .ok (.iconst (-1), 1) := by decide +kernel
theorem dX4_silt_12 : decode cX4_silt 12 = .ok (.ireturn, 1) := by decide +kernel
theorem dX4_silt_13 : decode cX4_silt 13 = .ok (.iload_n 2, 1) := by decide +kernel
theorem dX4_silt_14 : decode cX4_silt 14 = .ok (.iconst 0, 1) := by decide +kernel
theorem dX4_silt_15 : decode cX4_silt 15 = .ok (.iconst 2, 1) := by decide +kernel
theorem dX4_silt_16 : decode cX4_silt 16 = .ok (.invokestatic 107, 3) := by decide +kernel
theorem dX4_silt_19 : decode cX4_silt 19 = .ok (.ifCond .ne 6, 3) := by decide +kernel
theorem dX4_silt_22 : decode cX4_silt 22 = .ok (.bipush (-2), 2) := by decide +kernel
theorem dX4_silt_24 : decode cX4_silt 24 = .ok (.ireturn, 1) := by decide +kernel
theorem dX4_silt_25 : decode cX4_silt 25 = .ok (.aload_n 0, 1) := by decide +kernel
theorem dX4_silt_26 : decode cX4_silt 26 = .ok (.getfield 12, 3) := by decide +kernel
theorem dX4_silt_29 : decode cX4_silt 29 = .ok (.getfield 84, 3) := by decide +kernel
theorem dX4_silt_32 : decode cX4_silt 32 = .ok (.iload_n 1, 1) := by decide +kernel
theorem dX4_silt_33 : decode cX4_silt 33 = .ok (.iaload, 1) := by decide +kernel
theorem dX4_silt_34 : decode cX4_silt 34 = .ok (.istore_n 3, 1) := by decide +kernel
theorem dX4_silt_35 : decode cX4_silt 35 = .ok (.aload_n 0, 1) := by decide +kernel
theorem dX4_silt_36 : decode cX4_silt 36 = .ok (.getfield 12, 3) := by decide +kernel
theorem dX4_silt_39 : decode cX4_silt 39 = .ok (.getfield 84, 3) := by decide +kernel
theorem dX4_silt_42 : decode cX4_silt 42 = .ok (.iload_n 1, 1) := by decide +kernel
theorem dX4_silt_43 : decode cX4_silt 43 = .ok (.iload_n 2, 1) := by decide +kernel
theorem dX4_silt_44 : decode cX4_silt 44 = .ok (.iastore, 1) := by decide +kernel
theorem dX4_silt_45 : decode cX4_silt 45 = .ok (.iload_n 3, 1) := by decide +kernel
theorem dX4_silt_46 : decode cX4_silt 46 = .ok (.ireturn, 1) := by decide +kernel
theorem dX4_dry_0 : decode cX4_dry 0 = .ok (.iload_n 1, 1) := by decide +kernel
theorem dX4_dry_1 : decode cX4_dry 1 = .ok (.iconst 1, 1) := by decide +kernel
theorem dX4_dry_2 : decode cX4_dry 2 = .ok (.bipush 30, 2) := by decide +kernel
theorem dX4_dry_4 : decode cX4_dry 4 = .ok (.invokestatic 107, 3) := by decide +kernel
theorem dX4_dry_7 : decode cX4_dry 7 = .ok (.ifCond .ne 6, 3) := by decide +kernel
theorem dX4_dry_10 : decode cX4_dry 10 = .ok (.bipush (-2), 2) := by decide +kernel
theorem dX4_dry_12 : decode cX4_dry 12 = .ok (.ireturn, 1) := by decide +kernel
theorem dX4_dry_13 : decode cX4_dry 13 = .ok (.aload_n 0, 1) := by decide +kernel
theorem dX4_dry_14 : decode cX4_dry 14 = .ok (.getfield 12, 3) := by decide +kernel
theorem dX4_dry_17 : decode cX4_dry 17 = .ok (.invokevirtual 111, 3) := by decide +kernel
theorem dX4_dry_20 : decode cX4_dry 20 = .ok (.ifCond .ne 6, 3) := by decide +kernel
theorem dX4_dry_23 : decode cX4_dry 23 = .ok (.bipush (-3), 2) := by decide +kernel
theorem dX4_dry_25 : decode cX4_dry 25 = .ok (.ireturn, 1) := by decide +kernel
theorem dX4_dry_26 : decode cX4_dry 26 = .ok (.aload_n 0, 1) := by decide +kernel
theorem dX4_dry_27 : decode cX4_dry 27 = .ok (.getfield 12, 3) := by decide +kernel
theorem dX4_dry_30 : decode cX4_dry 30 = .ok (.invokevirtual 94, 3) := by decide +kernel
theorem dX4_dry_33 : decode cX4_dry 33 = .ok (.istore_n 2, 1) := by decide +kernel
theorem dX4_dry_34 : decode cX4_dry 34 = .ok (.aload_n 0, 1) := by decide +kernel
theorem dX4_dry_35 : decode cX4_dry 35 = .ok (.getfield 12, 3) := by decide +kernel
theorem dX4_dry_38 : decode cX4_dry 38 = .ok (.iload_n 1, 1) := by decide +kernel
theorem dX4_dry_39 : decode cX4_dry 39 = .ok (.invokevirtual 118, 3) := by decide +kernel
theorem dX4_dry_42 : decode cX4_dry 42 = .ok (.aload_n 0, 1) := by decide +kernel
theorem dX4_dry_43 : decode cX4_dry 43 = .ok (.dup, 1) := by decide +kernel
theorem dX4_dry_44 : decode cX4_dry 44 = .ok (.getfield 39, 3) := by decide +kernel
theorem dX4_dry_47 : decode cX4_dry 47 = .ok (.iload_n 1, 1) := by decide +kernel
theorem dX4_dry_48 : decode cX4_dry 48 = .ok (.iadd, 1) := by decide +kernel
theorem dX4_dry_49 : decode cX4_dry 49 = .ok (.putfield 39, 3) := by decide +kernel
theorem dX4_dry_52 : decode cX4_dry 52 = .ok (.iload_n 2, 1) := by decide +kernel
theorem dX4_dry_53 : decode cX4_dry 53 = .ok (.aload_n 0, 1) := by decide +kernel
theorem dX4_dry_54 : decode cX4_dry 54 = .ok (.getfield 12, 3) := by decide +kernel
theorem dX4_dry_57 : decode cX4_dry 57 = .ok (.invokevirtual 122, 3) := by decide +kernel
theorem dX4_dry_60 : decode cX4_dry 60 = .ok (.iand, 1) := by decide +kernel
theorem dX4_dry_61 : decode cX4_dry 61 = .ok (.invokestatic 102, 3) := by decide +kernel
theorem dX4_dry_64 : decode cX4_dry 64 = .ok (.ireturn, 1) := by decide +kernel
theorem dX4_pour_0 : decode cX4_pour 0 = .ok (.aload_n 0, 1) := by decide +kernel
theorem dX4_pour_1 : decode cX4_pour 1 = .ok (.getfield 12, 3) := by decide +kernel
theorem dX4_pour_4 : decode cX4_pour 4 = .ok (.iload_n 1, 1) := by decide +kernel
theorem dX4_pour_5 : decode cX4_pour 5 = .ok (.invokevirtual 81, 3) := by decide +kernel
theorem dX4_pour_8 : decode cX4_pour 8 = .ok (.ifCond .ne 5, 3) := by decide +kernel
theorem dX4_pour_11 : decode cX4_pour 11 = .ok (.iconst (-1), 1) := by decide +kernel
theorem dX4_pour_12 : decode cX4_pour 12 = .ok (.ireturn, 1) := by decide +kernel
theorem dX4_pour_13 : decode cX4_pour 13 = .ok (.iload_n 2, 1) := by decide +kernel
theorem dX4_pour_14 : decode cX4_pour 14 = .ok (.iconst 1, 1) := by decide +kernel
theorem dX4_pour_15 : decode cX4_pour 15 = .ok (.bipush 9, 2) := by decide +kernel
theorem dX4_pour_17 : decode cX4_pour 17 = .ok (.invokestatic 107, 3) := by decide +kernel
theorem dX4_pour_20 : decode cX4_pour 20 = .ok (.ifCond .ne 6, 3) := by decide +kernel
theorem dX4_pour_23 : decode cX4_pour 23 = .ok (.bipush (-2), 2) := by decide +kernel
theorem dX4_pour_25 : decode cX4_pour 25 = .ok (.ireturn, 1) := by decide +kernel
theorem dX4_pour_26 : decode cX4_pour 26 = .ok (.aload_n 0, 1) := by decide +kernel
theorem dX4_pour_27 : decode cX4_pour 27 = .ok (.getfield 12, 3) := by decide +kernel
theorem dX4_pour_30 : decode cX4_pour 30 = .ok (.iload_n 1, 1) := by decide +kernel
theorem dX4_pour_31 : decode cX4_pour 31 = .ok (.iload_n 2, 1) := by decide +kernel
theorem dX4_pour_32 : decode cX4_pour 32 = .ok (.invokevirtual 125, 3) := by decide +kernel
theorem dX4_pour_35 : decode cX4_pour 35 = .ok (.ifCond .ne 6, 3) := by decide +kernel
theorem dX4_pour_38 : decode cX4_pour 38 = .ok (.bipush (-3), 2) := by decide +kernel
theorem dX4_pour_40 : decode cX4_pour 40 = .ok (.ireturn, 1) := by decide +kernel
theorem dX4_pour_41 : decode cX4_pour 41 = .ok (.aload_n 0, 1) := by decide +kernel
theorem dX4_pour_42 : decode cX4_pour 42 = .ok (.getfield 12, 3) := by decide +kernel
theorem dX4_pour_45 : decode cX4_pour 45 = .ok (.getfield 88, 3) := by decide +kernel
theorem dX4_pour_48 : decode cX4_pour 48 = .ok (.iload_n 1, 1) := by decide +kernel
theorem dX4_pour_49 : decode cX4_pour 49 = .ok (.iaload, 1) := by decide +kernel
theorem dX4_pour_50 : decode cX4_pour 50 = .ok (.ireturn, 1) := by decide +kernel
theorem dX4_cracks_0 : decode cX4_cracks 0 = .ok (.iload_n 1, 1) := by decide +kernel
theorem dX4_cracks_1 : decode cX4_cracks 1 = .ok (.iconst 0, 1) := by decide +kernel
theorem dX4_cracks_2 : decode cX4_cracks 2 = .ok (.iconst 3, 1) := by decide +kernel
theorem dX4_cracks_3 : decode cX4_cracks 3 = .ok (.invokestatic 107, 3) := by decide +kernel
theorem dX4_cracks_6 : decode cX4_cracks 6 = .ok (.ifCond .ne 6, 3) := by decide +kernel
theorem dX4_cracks_9 : decode cX4_cracks 9 = .ok (.bipush (-2), 2) := by decide +kernel
theorem dX4_cracks_11 : decode cX4_cracks 11 = .ok (.ireturn, 1) := by decide +kernel
theorem dX4_cracks_12 : decode cX4_cracks 12 = .ok (.aload_n 0, 1) := by decide +kernel
theorem dX4_cracks_13 : decode cX4_cracks 13 = .ok (.getfield 12, 3) := by decide +kernel
theorem dX4_cracks_16 : decode cX4_cracks 16 = .ok (.invokevirtual 111, 3) := by decide +kernel
theorem dX4_cracks_19 : decode cX4_cracks 19 = .ok (.ifCond .ne 6, 3) := by decide +kernel
theorem dX4_cracks_22 : decode cX4_cracks 22 = .ok (.bipush (-3), 2) := by decide +kernel
theorem dX4_cracks_24 : decode cX4_cracks 24 = .ok (.ireturn, 1) := by decide +kernel
theorem dX4_cracks_25 : decode cX4_cracks 25 = .ok (.iload_n 1, 1) := by decide +kernel
theorem dX4_cracks_26 : decode cX4_cracks 26 = .ok (.tableswitch 65 0 2 #[26, 34, 57], 26) := by decide +kernel
theorem dX4_cracks_52 : decode cX4_cracks 52 = .ok (.aload_n 0, 1) := by decide +kernel
theorem dX4_cracks_53 : decode cX4_cracks 53 = .ok (.getfield 12, 3) := by decide +kernel
theorem dX4_cracks_56 : decode cX4_cracks 56 = .ok (.invokevirtual 122, 3) := by decide +kernel
theorem dX4_cracks_59 : decode cX4_cracks 59 = .ok (.ireturn, 1) := by decide +kernel
theorem dX4_cracks_60 : decode cX4_cracks 60 = .ok (.aload_n 0, 1) := by decide +kernel
theorem dX4_cracks_61 : decode cX4_cracks 61 = .ok (.getfield 12, 3) := by decide +kernel
theorem dX4_cracks_64 : decode cX4_cracks 64 = .ok (.aload_n 0, 1) := by decide +kernel
theorem dX4_cracks_65 : decode cX4_cracks 65 = .ok (.getfield 12, 3) := by decide +kernel
theorem dX4_cracks_68 : decode cX4_cracks 68 = .ok (.invokevirtual 122, 3) := by decide +kernel
theorem dX4_cracks_71 : decode cX4_cracks 71 = .ok (.invokevirtual 128, 3) := by decide +kernel
theorem dX4_cracks_74 : decode cX4_cracks 74 = .ok (.ifCond .eq 7, 3) := by decide +kernel
theorem dX4_cracks_77 : decode cX4_cracks 77 = .ok (.iconst 1, 1) := by decide +kernel
theorem dX4_cracks_78 : decode cX4_cracks 78 = .ok (.goto 4, 3) := by decide +kernel
theorem dX4_cracks_81 : decode cX4_cracks 81 = .ok (.iconst 0, 1) := by decide +kernel
theorem dX4_cracks_82 : decode cX4_cracks 82 = .ok (.ireturn, 1) := by decide +kernel
theorem dX4_cracks_83 : decode cX4_cracks 83 = .ok (.aload_n 0, 1) := by decide +kernel
theorem dX4_cracks_84 : decode cX4_cracks 84 = .ok (.getfield 12, 3) := by decide +kernel
theorem dX4_cracks_87 : decode cX4_cracks 87 = .ok (.invokevirtual 131, 3) := by decide +kernel
theorem dX4_cracks_90 : decode cX4_cracks 90 = .ok (.ireturn, 1) := by decide +kernel
theorem dX4_cracks_91 : decode cX4_cracks 91 = .ok (.aload_n 0, 1) := by decide +kernel
theorem dX4_cracks_92 : decode cX4_cracks 92 = .ok (.getfield 12, 3) := by decide +kernel
theorem dX4_cracks_95 : decode cX4_cracks 95 = .ok (.invokevirtual 134, 3) := by decide +kernel
theorem dX4_cracks_98 : decode cX4_cracks 98 = .ok (.ireturn, 1) := by decide +kernel
theorem dX4_way_0 : decode cX4_way 0 = .ok (.aload_n 0, 1) := by decide +kernel
theorem dX4_way_1 : decode cX4_way 1 = .ok (.getfield 12, 3) := by decide +kernel
theorem dX4_way_4 : decode cX4_way 4 = .ok (.iload_n 1, 1) := by decide +kernel
theorem dX4_way_5 : decode cX4_way 5 = .ok (.invokevirtual 81, 3) := by decide +kernel
theorem dX4_way_8 : decode cX4_way 8 = .ok (.ifCond .eq 14, 3) := by decide +kernel
theorem dX4_way_11 : decode cX4_way 11 = .ok (.aload_n 0, 1) := by decide +kernel
theorem dX4_way_12 : decode cX4_way 12 = .ok (.getfield 12, 3) := by decide +kernel
theorem dX4_way_15 : decode cX4_way 15 = .ok (.iload_n 2, 1) := by decide +kernel
theorem dX4_way_16 : decode cX4_way 16 = .ok (.invokevirtual 81, 3) := by decide +kernel
theorem dX4_way_19 : decode cX4_way 19 = .ok (.ifCond .ne 5, 3) := by decide +kernel
theorem dX4_way_22 : decode cX4_way 22 = .ok (.iconst (-1), 1) := by decide +kernel
theorem dX4_way_23 : decode cX4_way 23 = .ok (.ireturn, 1) := by decide +kernel
theorem dX4_way_24 : decode cX4_way 24 = .ok (.aload_n 0, 1) := by decide +kernel
theorem dX4_way_25 : decode cX4_way 25 = .ok (.getfield 12, 3) := by decide +kernel
theorem dX4_way_28 : decode cX4_way 28 = .ok (.iload_n 1, 1) := by decide +kernel
theorem dX4_way_29 : decode cX4_way 29 = .ok (.iload_n 2, 1) := by decide +kernel
theorem dX4_way_30 : decode cX4_way 30 = .ok (.invokevirtual 137, 3) := by decide +kernel
theorem dX4_way_33 : decode cX4_way 33 = .ok (.ireturn, 1) := by decide +kernel
theorem dX4_plan_0 : decode cX4_plan 0 = .ok (.aload_n 0, 1) := by decide +kernel
theorem dX4_plan_1 : decode cX4_plan 1 = .ok (.iconst 0, 1) := by decide +kernel
theorem dX4_plan_2 : decode cX4_plan 2 = .ok (.putfield 46, 3) := by decide +kernel
theorem dX4_plan_5 : decode cX4_plan 5 = .ok (.iload_n 1, 1) := by decide +kernel
theorem dX4_plan_6 : decode cX4_plan 6 = .ok (.invokestatic 49, 3) := by decide +kernel
theorem dX4_plan_9 : decode cX4_plan 9 = .ok (.ifCond .ne 5, 3) := by decide +kernel
theorem dX4_plan_12 : decode cX4_plan 12 = .ok (.iconst (-1), 1) := by decide +kernel
theorem dX4_plan_13 : decode cX4_plan 13 = .ok (.ireturn, 1) := by decide +kernel
theorem dX4_plan_14 : decode cX4_plan 14 = .ok (.iload 5, 2) := by decide +kernel
theorem dX4_plan_16 : decode cX4_plan 16 = .ok (.iconst 0, 1) := by decide +kernel
theorem dX4_plan_17 : decode cX4_plan 17 = .ok (.iconst 4, 1) := by decide +kernel
theorem dX4_plan_18 : decode cX4_plan 18 = .ok (.invokestatic 107, 3) := by decide +kernel
theorem dX4_plan_21 : decode cX4_plan 21 = .ok (.ifCond .ne 15, 3) := by decide +kernel
theorem dX4_plan_24 : decode cX4_plan 24 = .ok (.iload 5, 2) := by decide +kernel
theorem dX4_plan_26 : decode cX4_plan 26 = .ok (.bipush 10, 2) := by decide +kernel
theorem dX4_plan_28 : decode cX4_plan 28 = .ok (.bipush 21, 2) := by decide +kernel
theorem dX4_plan_30 : decode cX4_plan 30 = .ok (.invokestatic 107, 3) := by decide +kernel
theorem dX4_plan_33 : decode cX4_plan 33 = .ok (.ifCond .eq 7, 3) := by decide +kernel
theorem dX4_plan_36 : decode cX4_plan 36 = .ok (.iconst 1, 1) := by decide +kernel
theorem dX4_plan_37 : decode cX4_plan 37 = .ok (.goto 4, 3) := by decide +kernel
theorem dX4_plan_40 : decode cX4_plan 40 = .ok (.iconst 0, 1) := by decide +kernel
theorem dX4_plan_41 : decode cX4_plan 41 = .ok (.istore 6, 2) := by decide +kernel
theorem dX4_plan_43 : decode cX4_plan 43 = .ok (.iload_n 2, 1) := by decide +kernel
theorem dX4_plan_44 : decode cX4_plan 44 = .ok (.invokestatic 53, 3) := by decide +kernel
theorem dX4_plan_47 : decode cX4_plan 47 = .ok (.ifCond .eq 19, 3) := by decide +kernel
theorem dX4_plan_50 : decode cX4_plan 50 = .ok (.iload 4, 2) := by decide +kernel
theorem dX4_plan_52 : decode cX4_plan 52 = .ok (.iconst 0, 1) := by decide +kernel
theorem dX4_plan_53 : decode cX4_plan 53 = .ok (.bipush 20, 2) := by decide +kernel
theorem dX4_plan_55 : decode cX4_plan 55 = .ok (.invokestatic 107, 3) := by decide +kernel
theorem dX4_plan_58 : decode cX4_plan 58 = .ok (.ifCond .eq 8, 3) := by decide +kernel
theorem dX4_plan_61 : decode cX4_plan 61 = .ok (.iload 6, 2) := by decide +kernel
theorem dX4_plan_63 : decode cX4_plan 63 = .ok (.ifCond .ne 6, 3) := by decide +kernel
theorem dX4_plan_66 : decode cX4_plan 66 = .ok (.bipush (-2), 2) := by decide +kernel
theorem dX4_plan_68 : decode cX4_plan 68 = .ok (.ireturn, 1) := by decide +kernel
theorem dX4_plan_69 : decode cX4_plan 69 = .ok (.aload_n 0, 1) := by decide +kernel
theorem dX4_plan_70 : decode cX4_plan 70 = .ok (.getfield 34, 3) := by decide +kernel
theorem dX4_plan_73 : decode cX4_plan 73 = .ok (.iload_n 1, 1) := by decide +kernel
theorem dX4_plan_74 : decode cX4_plan 74 = .ok (.aaload, 1) := by decide +kernel
theorem dX4_plan_75 : decode cX4_plan 75 = .ok (.astore 7, 2) := by decide +kernel
theorem dX4_plan_77 : decode cX4_plan 77 = .ok (.aload 7, 2) := by decide +kernel
theorem dX4_plan_79 : decode cX4_plan 79 = .ok (.iload_n 2, 1) := by decide +kernel
theorem dX4_plan_80 : decode cX4_plan 80 = .ok (.invokevirtual 56, 3) := by decide +kernel
theorem dX4_plan_83 : decode cX4_plan 83 = .ok (.istore 8, 2) := by decide +kernel
theorem dX4_plan_85 : decode cX4_plan 85 = .ok (.iload 8, 2) := by decide +kernel
theorem dX4_plan_87 : decode cX4_plan 87 = .ok (.ifCond .ne 19, 3) := by decide +kernel
theorem dX4_plan_90 : decode cX4_plan 90 = .ok (.aload 7, 2) := by decide +kernel
theorem dX4_plan_92 : decode cX4_plan 92 = .ok (.iload_n 3, 1) := by decide +kernel
theorem dX4_plan_93 : decode cX4_plan 93 = .ok (.iconst 2, 1) := by decide +kernel
theorem dX4_plan_94 : decode cX4_plan 94 = .ok (.iload 4, 2) := by decide +kernel
theorem dX4_plan_96 : decode cX4_plan 96 = .ok (.imul, 1) := by decide +kernel
theorem dX4_plan_97 : decode cX4_plan 97 = .ok (.invokevirtual 60, 3) := by decide +kernel
theorem dX4_plan_100 : decode cX4_plan 100 = .ok (.ifCond .ne 6, 3) := by decide +kernel
theorem dX4_plan_103 : decode cX4_plan 103 = .ok (.iconst 3, 1) := by decide +kernel
theorem dX4_plan_104 : decode cX4_plan 104 = .ok (.istore 8, 2) := by decide +kernel
theorem dX4_plan_106 : decode cX4_plan 106 = .ok (.iload 8, 2) := by decide +kernel
theorem dX4_plan_108 : decode cX4_plan 108 = .ok (.ifCond .eq 10, 3) := by decide +kernel
theorem dX4_plan_111 : decode cX4_plan 111 = .ok (.aload_n 0, 1) := by decide +kernel
theorem dX4_plan_112 : decode cX4_plan 112 = .ok (.iload 8, 2) := by decide +kernel
theorem dX4_plan_114 : decode cX4_plan 114 = .ok (.invokevirtual 64, 3) := by decide +kernel
theorem dX4_plan_117 : decode cX4_plan 117 = .ok (.ireturn, 1) := by decide +kernel
theorem dX4_plan_118 : decode cX4_plan 118 = .ok (.aload_n 0, 1) := by decide +kernel
theorem dX4_plan_119 : decode cX4_plan 119 = .ok (.getfield 12, 3) := by decide +kernel
theorem dX4_plan_122 : decode cX4_plan 122 = .ok (.invokevirtual 111, 3) := by decide +kernel
theorem dX4_plan_125 : decode cX4_plan 125 = .ok (.ifCond .ne 6, 3) := by decide +kernel
theorem dX4_plan_128 : decode cX4_plan 128 = .ok (.bipush (-3), 2) := by decide +kernel
theorem dX4_plan_130 : decode cX4_plan 130 = .ok (.ireturn, 1) := by decide +kernel
theorem dX4_plan_131 : decode cX4_plan 131 = .ok (.aload_n 0, 1) := by decide +kernel
theorem dX4_plan_132 : decode cX4_plan 132 = .ok (.aload 7, 2) := by decide +kernel
theorem dX4_plan_134 : decode cX4_plan 134 = .ok (.iload_n 3, 1) := by decide +kernel
theorem dX4_plan_135 : decode cX4_plan 135 = .ok (.iload 4, 2) := by decide +kernel
theorem dX4_plan_137 : decode cX4_plan 137 = .ok (.invokevirtual 140, 3) := by decide +kernel
theorem dX4_plan_140 : decode cX4_plan 140 = .ok (.istore 9, 2) := by decide +kernel
theorem dX4_plan_142 : decode cX4_plan 142 = .ok (.iload 9, 2) := by decide +kernel
theorem dX4_plan_144 : decode cX4_plan 144 = .ok (.ifCond .eq 6, 3) := by decide +kernel
theorem dX4_plan_147 : decode cX4_plan 147 = .ok (.iload 9, 2) := by decide +kernel
theorem dX4_plan_149 : decode cX4_plan 149 = .ok (.ireturn, 1) := by decide +kernel
theorem dX4_plan_150 : decode cX4_plan 150 = .ok (.aload_n 0, 1) := by decide +kernel
theorem dX4_plan_151 : decode cX4_plan 151 = .ok (.getfield 21, 3) := by decide +kernel
theorem dX4_plan_154 : decode cX4_plan 154 = .ok (.aload_n 0, 1) := by decide +kernel
theorem dX4_plan_155 : decode cX4_plan 155 = .ok (.getfield 12, 3) := by decide +kernel
theorem dX4_plan_158 : decode cX4_plan 158 = .ok (.aload 7, 2) := by decide +kernel
theorem dX4_plan_160 : decode cX4_plan 160 = .ok (.iload_n 3, 1) := by decide +kernel
theorem dX4_plan_161 : decode cX4_plan 161 = .ok (.iload 4, 2) := by decide +kernel
theorem dX4_plan_163 : decode cX4_plan 163 = .ok (.invokevirtual 143, 3) := by decide +kernel
theorem dX4_plan_166 : decode cX4_plan 166 = .ok (.aload_n 0, 1) := by decide +kernel
theorem dX4_plan_167 : decode cX4_plan 167 = .ok (.getfield 21, 3) := by decide +kernel
theorem dX4_plan_170 : decode cX4_plan 170 = .ok (.iload 5, 2) := by decide +kernel
theorem dX4_plan_172 : decode cX4_plan 172 = .ok (.invokevirtual 147, 3) := by decide +kernel
theorem dX4_plan_175 : decode cX4_plan 175 = .ok (.ireturn, 1) := by decide +kernel
theorem dX4_when_0 : decode cX4_when 0 = .ok (.aload_n 0, 1) := by decide +kernel
theorem dX4_when_1 : decode cX4_when 1 = .ok (.getfield 12, 3) := by decide +kernel
theorem dX4_when_4 : decode cX4_when 4 = .ok (.iload_n 1, 1) := by decide +kernel
theorem dX4_when_5 : decode cX4_when 5 = .ok (.invokevirtual 81, 3) := by decide +kernel
theorem dX4_when_8 : decode cX4_when 8 = .ok (.ifCond .ne 5, 3) := by decide +kernel
theorem dX4_when_11 : decode cX4_when 11 = .ok (.iconst (-1), 1) := by decide +kernel
theorem dX4_when_12 : decode cX4_when 12 = .ok (.ireturn, 1) := by decide +kernel
theorem dX4_when_13 : decode cX4_when 13 = .ok (.iconst 0, 1) := by decide +kernel
theorem dX4_when_14 : decode cX4_when 14 = .ok (.istore_n 2, 1) := by decide +kernel
theorem dX4_when_15 : decode cX4_when 15 = .ok (.iload_n 2, 1) := by decide +kernel
theorem dX4_when_16 : decode cX4_when 16 = .ok (.bipush 20, 2) := by decide +kernel
theorem dX4_when_18 : decode cX4_when 18 = .ok (.if_icmp .gt 23, 3) := by decide +kernel
theorem dX4_when_21 : decode cX4_when 21 = .ok (.aload_n 0, 1) := by decide +kernel
theorem dX4_when_22 : decode cX4_when 22 = .ok (.getfield 12, 3) := by decide +kernel
theorem dX4_when_25 : decode cX4_when 25 = .ok (.iload_n 1, 1) := by decide +kernel
theorem dX4_when_26 : decode cX4_when 26 = .ok (.iload_n 2, 1) := by decide +kernel
theorem dX4_when_27 : decode cX4_when 27 = .ok (.invokevirtual 150, 3) := by decide +kernel
theorem dX4_when_30 : decode cX4_when 30 = .ok (.ifCond .eq 5, 3) := by decide +kernel
theorem dX4_when_33 : decode cX4_when 33 = .ok (.iload_n 2, 1) := by decide +kernel
theorem dX4_when_34 : decode cX4_when 34 = .ok (.ireturn, 1) := by decide +kernel
theorem dX4_when_35 : decode cX4_when 35 = .ok (.iinc 2 1, 3) := by decide +kernel
theorem dX4_when_38 : decode cX4_when 38 = .ok (.goto (-23), 3) := by decide +kernel
theorem dX4_when_41 : decode cX4_when 41 = .ok (.bipush (-9), 2) := by decide +kernel
theorem dX4_when_43 : decode cX4_when 43 = .ok (.ireturn, 1) := by decide +kernel
theorem dX4_opens_0 : decode cX4_opens 0 = .ok (.aload_n 0, 1) := by decide +kernel
theorem dX4_opens_1 : decode cX4_opens 1 = .ok (.getfield 12, 3) := by decide +kernel
theorem dX4_opens_4 : decode cX4_opens 4 = .ok (.invokevirtual 111, 3) := by decide +kernel
theorem dX4_opens_7 : decode cX4_opens 7 = .ok (.ifCond .ne 6, 3) := by decide +kernel
theorem dX4_opens_10 : decode cX4_opens 10 = .ok (.bipush (-3), 2) := by decide +kernel
theorem dX4_opens_12 : decode cX4_opens 12 = .ok (.ireturn, 1) := by decide +kernel
theorem dX4_opens_13 : decode cX4_opens 13 = .ok (.iconst 0, 1) := by decide +kernel
theorem dX4_opens_14 : decode cX4_opens 14 = .ok (.istore_n 1, 1) := by decide +kernel
theorem dX4_opens_15 : decode cX4_opens 15 = .ok (.iload_n 1, 1) := by decide +kernel
theorem dX4_opens_16 : decode cX4_opens 16 = .ok (.bipush 20, 2) := by decide +kernel
theorem dX4_opens_18 : decode cX4_opens 18 = .ok (.if_icmp .gt 29, 3) := by decide +kernel
theorem dX4_opens_21 : decode cX4_opens 21 = .ok (.aload_n 0, 1) := by decide +kernel
theorem dX4_opens_22 : decode cX4_opens 22 = .ok (.getfield 12, 3) := by decide +kernel
theorem dX4_opens_25 : decode cX4_opens 25 = .ok (.aload_n 0, 1) := by decide +kernel
theorem dX4_opens_26 : decode cX4_opens 26 = .ok (.getfield 12, 3) := by decide +kernel
theorem dX4_opens_29 : decode cX4_opens 29 = .ok (.iload_n 1, 1) := by decide +kernel
theorem dX4_opens_30 : decode cX4_opens 30 = .ok (.invokevirtual 153, 3) := by decide +kernel
theorem dX4_opens_33 : decode cX4_opens 33 = .ok (.invokevirtual 128, 3) := by decide +kernel
theorem dX4_opens_36 : decode cX4_opens 36 = .ok (.ifCond .eq 5, 3) := by decide +kernel
theorem dX4_opens_39 : decode cX4_opens 39 = .ok (.iload_n 1, 1) := by decide +kernel
theorem dX4_opens_40 : decode cX4_opens 40 = .ok (.ireturn, 1) := by decide +kernel
theorem dX4_opens_41 : decode cX4_opens 41 = .ok (.iinc 1 1, 3) := by decide +kernel
theorem dX4_opens_44 : decode cX4_opens 44 = .ok (.goto (-29), 3) := by decide +kernel
theorem dX4_opens_47 : decode cX4_opens 47 = .ok (.bipush (-9), 2) := by decide +kernel
theorem dX4_opens_49 : decode cX4_opens 49 = .ok (.ireturn, 1) := by decide +kernel
theorem dX4_bars_0 : decode cX4_bars 0 = .ok (.iload_n 1, 1) := by decide +kernel
theorem dX4_bars_1 : decode cX4_bars 1 = .ok (.iconst 0, 1) := by decide +kernel
theorem dX4_bars_2 : decode cX4_bars 2 = .ok (.bipush 20, 2) := by decide +kernel
theorem dX4_bars_4 : decode cX4_bars 4 = .ok (.invokestatic 107, 3) := by decide +kernel
theorem dX4_bars_7 : decode cX4_bars 7 = .ok (.ifCond .ne 6, 3) := by decide +kernel
theorem dX4_bars_10 : decode cX4_bars 10 = .ok (.bipush (-2), 2) := by decide +kernel
theorem dX4_bars_12 : decode cX4_bars 12 = .ok (.ireturn, 1) := by decide +kernel
theorem dX4_bars_13 : decode cX4_bars 13 = .ok (.aload_n 0, 1) := by decide +kernel
theorem dX4_bars_14 : decode cX4_bars 14 = .ok (.getfield 12, 3) := by decide +kernel
theorem dX4_bars_17 : decode cX4_bars 17 = .ok (.invokevirtual 111, 3) := by decide +kernel
theorem dX4_bars_20 : decode cX4_bars 20 = .ok (.ifCond .ne 6, 3) := by decide +kernel
theorem dX4_bars_23 : decode cX4_bars 23 = .ok (.bipush (-3), 2) := by decide +kernel
theorem dX4_bars_25 : decode cX4_bars 25 = .ok (.ireturn, 1) := by decide +kernel
theorem dX4_bars_26 : decode cX4_bars 26 = .ok (.aload_n 0, 1) := by decide +kernel
theorem dX4_bars_27 : decode cX4_bars 27 = .ok (.getfield 12, 3) := by decide +kernel
theorem dX4_bars_30 : decode cX4_bars 30 = .ok (.aload_n 0, 1) := by decide +kernel
theorem dX4_bars_31 : decode cX4_bars 31 = .ok (.getfield 12, 3) := by decide +kernel
theorem dX4_bars_34 : decode cX4_bars 34 = .ok (.iload_n 1, 1) := by decide +kernel
theorem dX4_bars_35 : decode cX4_bars 35 = .ok (.invokevirtual 153, 3) := by decide +kernel
theorem dX4_bars_38 : decode cX4_bars 38 = .ok (.invokevirtual 156, 3) := by decide +kernel
theorem dX4_bars_41 : decode cX4_bars 41 = .ok (.ireturn, 1) := by decide +kernel
theorem dX4_dates_0 : decode cX4_dates 0 = .ok (.aload_n 0, 1) := by decide +kernel
theorem dX4_dates_1 : decode cX4_dates 1 = .ok (.getfield 12, 3) := by decide +kernel
theorem dX4_dates_4 : decode cX4_dates 4 = .ok (.invokevirtual 111, 3) := by decide +kernel
theorem dX4_dates_7 : decode cX4_dates 7 = .ok (.ifCond .ne 6, 3) := by decide +kernel
theorem dX4_dates_10 : decode cX4_dates 10 = .ok (.bipush (-3), 2) := by decide +kernel
theorem dX4_dates_12 : decode cX4_dates 12 = .ok (.ireturn, 1) := by decide +kernel
theorem dX4_dates_13 : decode cX4_dates 13 = .ok (.iload_n 1, 1) := by decide +kernel
theorem dX4_dates_14 : decode cX4_dates 14 = .ok (.iconst 0, 1) := by decide +kernel
theorem dX4_dates_15 : decode cX4_dates 15 = .ok (.aload_n 0, 1) := by decide +kernel
theorem dX4_dates_16 : decode cX4_dates 16 = .ok (.getfield 12, 3) := by decide +kernel
theorem dX4_dates_19 : decode cX4_dates 19 = .ok (.getfield 159, 3) := by decide +kernel
theorem dX4_dates_22 : decode cX4_dates 22 = .ok (.invokestatic 107, 3) := by decide +kernel
theorem dX4_dates_25 : decode cX4_dates 25 = .ok (.ifCond .ne 6, 3) := by decide +kernel
theorem dX4_dates_28 : decode cX4_dates 28 = .ok (.bipush (-2), 2) := by decide +kernel
theorem dX4_dates_30 : decode cX4_dates 30 = .ok (.ireturn, 1) := by decide +kernel
theorem dX4_dates_31 : decode cX4_dates 31 = .ok (.iconst 0, 1) := by decide +kernel
theorem dX4_dates_32 : decode cX4_dates 32 = .ok (.istore_n 2, 1) := by decide +kernel
theorem dX4_dates_33 : decode cX4_dates 33 = .ok (.iconst 0, 1) := by decide +kernel
theorem dX4_dates_34 : decode cX4_dates 34 = .ok (.istore_n 3, 1) := by decide +kernel
theorem dX4_dates_35 : decode cX4_dates 35 = .ok (.iload_n 3, 1) := by decide +kernel
theorem dX4_dates_36 : decode cX4_dates 36 = .ok (.bipush 20, 2) := by decide +kernel
theorem dX4_dates_38 : decode cX4_dates 38 = .ok (.if_icmp .gt 27, 3) := by decide +kernel
theorem dX4_dates_41 : decode cX4_dates 41 = .ok (.aload_n 0, 1) := by decide +kernel
theorem dX4_dates_42 : decode cX4_dates 42 = .ok (.getfield 12, 3) := by decide +kernel
theorem dX4_dates_45 : decode cX4_dates 45 = .ok (.iload_n 3, 1) := by decide +kernel
theorem dX4_dates_46 : decode cX4_dates 46 = .ok (.invokevirtual 153, 3) := by decide +kernel
theorem dX4_dates_49 : decode cX4_dates 49 = .ok (.iload_n 1, 1) := by decide +kernel
theorem dX4_dates_50 : decode cX4_dates 50 = .ok (.if_icmp .ne 9, 3) := by decide +kernel
theorem dX4_dates_53 : decode cX4_dates 53 = .ok (.iload_n 2, 1) := by decide +kernel
theorem dX4_dates_54 : decode cX4_dates 54 = .ok (.iconst 1, 1) := by decide +kernel
theorem dX4_dates_55 : decode cX4_dates 55 = .ok (.iload_n 3, 1) := by decide +kernel
theorem dX4_dates_56 : decode cX4_dates 56 = .ok (.ishl, 1) := by decide +kernel
theorem dX4_dates_57 : decode cX4_dates 57 = .ok (.ior, 1) := by decide +kernel
theorem dX4_dates_58 : decode cX4_dates 58 = .ok (.istore_n 2, 1) := by decide +kernel
theorem dX4_dates_59 : decode cX4_dates 59 = .ok (.iinc 3 1, 3) := by decide +kernel
theorem dX4_dates_62 : decode cX4_dates 62 = .ok (.goto (-27), 3) := by decide +kernel
theorem dX4_dates_65 : decode cX4_dates 65 = .ok (.iload_n 2, 1) := by decide +kernel
theorem dX4_dates_66 : decode cX4_dates 66 = .ok (.ireturn, 1) := by decide +kernel
theorem dX4_reading_0 : decode cX4_reading 0 = .ok (.aload_n 0, 1) := by decide +kernel
theorem dX4_reading_1 : decode cX4_reading 1 = .ok (.getfield 12, 3) := by decide +kernel
theorem dX4_reading_4 : decode cX4_reading 4 = .ok (.iload_n 1, 1) := by decide +kernel
theorem dX4_reading_5 : decode cX4_reading 5 = .ok (.invokevirtual 81, 3) := by decide +kernel
theorem dX4_reading_8 : decode cX4_reading 8 = .ok (.ifCond .ne 5, 3) := by decide +kernel
theorem dX4_reading_11 : decode cX4_reading 11 = .ok (.iconst (-1), 1) := by decide +kernel
theorem dX4_reading_12 : decode cX4_reading 12 = .ok (.ireturn, 1) := by decide +kernel
theorem dX4_reading_13 : decode cX4_reading 13 = .ok (.iload_n 2, 1) := by decide +kernel
theorem dX4_reading_14 : decode cX4_reading 14 = .ok (.iconst 0, 1) := by decide +kernel
theorem dX4_reading_15 : decode cX4_reading 15 = .ok (.bipush 20, 2) := by decide +kernel
theorem dX4_reading_17 : decode cX4_reading 17 = .ok (.invokestatic 107, 3) := by decide +kernel
theorem dX4_reading_20 : decode cX4_reading 20 = .ok (.ifCond .eq 12, 3) := by decide +kernel
theorem dX4_reading_23 : decode cX4_reading 23 = .ok (.iload_n 3, 1) := by decide +kernel
theorem dX4_reading_24 : decode cX4_reading 24 = .ok (.iconst 0, 1) := by decide +kernel
theorem dX4_reading_25 : decode cX4_reading 25 = .ok (.iconst 1, 1) := by decide +kernel
theorem dX4_reading_26 : decode cX4_reading 26 = .ok (.invokestatic 107, 3) := by decide +kernel
theorem dX4_reading_29 : decode cX4_reading 29 = .ok (.ifCond .ne 6, 3) := by decide +kernel
theorem dX4_reading_32 : decode cX4_reading 32 = .ok (.bipush (-2), 2) := by decide +kernel
theorem dX4_reading_34 : decode cX4_reading 34 = .ok (.ireturn, 1) := by decide +kernel
theorem dX4_reading_35 : decode cX4_reading 35 = .ok (.aload_n 0, 1) := by decide +kernel
theorem dX4_reading_36 : decode cX4_reading 36 = .ok (.getfield 28, 3) := by decide +kernel
theorem dX4_reading_39 : decode cX4_reading 39 = .ok (.iload_n 1, 1) := by decide +kernel
theorem dX4_reading_40 : decode cX4_reading 40 = .ok (.iload_n 2, 1) := by decide +kernel
theorem dX4_reading_41 : decode cX4_reading 41 = .ok (.iload_n 3, 1) := by decide +kernel
theorem dX4_reading_42 : decode cX4_reading 42 = .ok (.invokevirtual 162, 3) := by decide +kernel
theorem dX4_reading_45 : decode cX4_reading 45 = .ok (.ireturn, 1) := by decide +kernel
theorem dX4_back_0 : decode cX4_back 0 = .ok (.iload_n 1, 1) := by decide +kernel
theorem dX4_back_1 : decode cX4_back 1 = .ok (.iconst 0, 1) := by decide +kernel
theorem dX4_back_2 : decode cX4_back 2 = .ok (.aload_n 0, 1) := by decide +kernel
theorem dX4_back_3 : decode cX4_back 3 = .ok (.getfield 28, 3) := by decide +kernel
theorem dX4_back_6 : decode cX4_back 6 = .ok (.getfield 75, 3) := by decide +kernel
theorem dX4_back_9 : decode cX4_back 9 = .ok (.invokestatic 107, 3) := by decide +kernel
theorem dX4_back_12 : decode cX4_back 12 = .ok (.ifCond .ne 6, 3) := by decide +kernel
theorem dX4_back_15 : decode cX4_back 15 = .ok (.bipush (-2), 2) := by decide +kernel
theorem dX4_back_17 : decode cX4_back 17 = .ok (.ireturn, 1) := by decide +kernel
theorem dX4_back_18 : decode cX4_back 18 = .ok (.aload_n 0, 1) := by decide +kernel
theorem dX4_back_19 : decode cX4_back 19 = .ok (.getfield 28, 3) := by decide +kernel
theorem dX4_back_22 : decode cX4_back 22 = .ok (.dup, 1) := by decide +kernel
theorem dX4_back_23 : decode cX4_back 23 = .ok (.getfield 75, 3) := by decide +kernel
theorem dX4_back_26 : decode cX4_back 26 = .ok (.iload_n 1, 1) := by decide +kernel
theorem dX4_back_27 : decode cX4_back 27 = .ok (.isub, 1) := by decide +kernel
theorem dX4_back_28 : decode cX4_back 28 = .ok (.putfield 75, 3) := by decide +kernel
theorem dX4_back_31 : decode cX4_back 31 = .ok (.aload_n 0, 1) := by decide +kernel
theorem dX4_back_32 : decode cX4_back 32 = .ok (.getfield 28, 3) := by decide +kernel
theorem dX4_back_35 : decode cX4_back 35 = .ok (.getfield 75, 3) := by decide +kernel
theorem dX4_back_38 : decode cX4_back 38 = .ok (.ireturn, 1) := by decide +kernel
theorem dX4_wets_0 : decode cX4_wets 0 = .ok (.aload_n 0, 1) := by decide +kernel
theorem dX4_wets_1 : decode cX4_wets 1 = .ok (.getfield 12, 3) := by decide +kernel
theorem dX4_wets_4 : decode cX4_wets 4 = .ok (.iload_n 1, 1) := by decide +kernel
theorem dX4_wets_5 : decode cX4_wets 5 = .ok (.invokevirtual 81, 3) := by decide +kernel
theorem dX4_wets_8 : decode cX4_wets 8 = .ok (.ifCond .ne 5, 3) := by decide +kernel
theorem dX4_wets_11 : decode cX4_wets 11 = .ok (.iconst (-1), 1) := by decide +kernel
theorem dX4_wets_12 : decode cX4_wets 12 = .ok (.ireturn, 1) := by decide +kernel
theorem dX4_wets_13 : decode cX4_wets 13 = .ok (.aload_n 0, 1) := by decide +kernel
theorem dX4_wets_14 : decode cX4_wets 14 = .ok (.getfield 21, 3) := by decide +kernel
theorem dX4_wets_17 : decode cX4_wets 17 = .ok (.getfield 166, 3) := by decide +kernel
theorem dX4_wets_20 : decode cX4_wets 20 = .ok (.astore_n 2, 1) := by decide +kernel
theorem dX4_wets_21 : decode cX4_wets 21 = .ok (.aload_n 2, 1) := by decide +kernel
theorem dX4_wets_22 : decode cX4_wets 22 = .ok (.aload_n 0, 1) := by decide +kernel
theorem dX4_wets_23 : decode cX4_wets 23 = .ok (.getfield 12, 3) := by decide +kernel
theorem dX4_wets_26 : decode cX4_wets 26 = .ok (.invokevirtual 167, 3) := by decide +kernel
theorem dX4_wets_29 : decode cX4_wets 29 = .ok (.iconst 0, 1) := by decide +kernel
theorem dX4_wets_30 : decode cX4_wets 30 = .ok (.istore_n 3, 1) := by decide +kernel
theorem dX4_wets_31 : decode cX4_wets 31 = .ok (.iconst 0, 1) := by decide +kernel
theorem dX4_wets_32 : decode cX4_wets 32 = .ok (.istore 4, 2) := by decide +kernel
theorem dX4_wets_34 : decode cX4_wets 34 = .ok (.iload 4, 2) := by decide +kernel
theorem dX4_wets_36 : decode cX4_wets 36 = .ok (.bipush 9, 2) := by decide +kernel
theorem dX4_wets_38 : decode cX4_wets 38 = .ok (.if_icmp .gt 35, 3) := by decide +kernel
theorem dX4_wets_41 : decode cX4_wets 41 = .ok (.aload_n 2, 1) := by decide +kernel
theorem dX4_wets_42 : decode cX4_wets 42 = .ok (.getfield 88, 3) := by decide +kernel
theorem dX4_wets_45 : decode cX4_wets 45 = .ok (.iload_n 1, 1) := by decide +kernel
theorem dX4_wets_46 : decode cX4_wets 46 = .ok (.iload 4, 2) := by decide +kernel
theorem dX4_wets_48 : decode cX4_wets 48 = .ok (.iastore, 1) := by decide +kernel
theorem dX4_wets_49 : decode cX4_wets 49 = .ok (.aload_n 0, 1) := by decide +kernel
theorem dX4_wets_50 : decode cX4_wets 50 = .ok (.getfield 28, 3) := by decide +kernel
theorem dX4_wets_53 : decode cX4_wets 53 = .ok (.aload_n 2, 1) := by decide +kernel
theorem dX4_wets_54 : decode cX4_wets 54 = .ok (.invokevirtual 171, 3) := by decide +kernel
theorem dX4_wets_57 : decode cX4_wets 57 = .ok (.ifCond .eq 10, 3) := by decide +kernel
theorem dX4_wets_60 : decode cX4_wets 60 = .ok (.iload_n 3, 1) := by decide +kernel
theorem dX4_wets_61 : decode cX4_wets 61 = .ok (.iconst 1, 1) := by decide +kernel
theorem dX4_wets_62 : decode cX4_wets 62 = .ok (.iload 4, 2) := by decide +kernel
theorem dX4_wets_64 : decode cX4_wets 64 = .ok (.ishl, 1) := by decide +kernel
theorem dX4_wets_65 : decode cX4_wets 65 = .ok (.ior, 1) := by decide +kernel
theorem dX4_wets_66 : decode cX4_wets 66 = .ok (.istore_n 3, 1) := by decide +kernel
theorem dX4_wets_67 : decode cX4_wets 67 = .ok (.iinc 4 1, 3) := by decide +kernel
theorem dX4_wets_70 : decode cX4_wets 70 = .ok (.goto (-36), 3) := by decide +kernel
theorem dX4_wets_73 : decode cX4_wets 73 = .ok (.iload_n 3, 1) := by decide +kernel
theorem dX4_wets_74 : decode cX4_wets 74 = .ok (.ireturn, 1) := by decide +kernel
theorem dX4_kinds_0 : decode cX4_kinds 0 = .ok (.aload_n 0, 1) := by decide +kernel
theorem dX4_kinds_1 : decode cX4_kinds 1 = .ok (.getfield 12, 3) := by decide +kernel
theorem dX4_kinds_4 : decode cX4_kinds 4 = .ok (.iload_n 1, 1) := by decide +kernel
theorem dX4_kinds_5 : decode cX4_kinds 5 = .ok (.invokevirtual 81, 3) := by decide +kernel
theorem dX4_kinds_8 : decode cX4_kinds 8 = .ok (.ifCond .ne 5, 3) := by decide +kernel
theorem dX4_kinds_11 : decode cX4_kinds 11 = .ok (.iconst (-1), 1) := by decide +kernel
theorem dX4_kinds_12 : decode cX4_kinds 12 = .ok (.ireturn, 1) := by decide +kernel
theorem dX4_kinds_13 : decode cX4_kinds 13 = .ok (.aload_n 0, 1) := by decide +kernel
theorem dX4_kinds_14 : decode cX4_kinds 14 = .ok (.getfield 21, 3) := by decide +kernel
theorem dX4_kinds_17 : decode cX4_kinds 17 = .ok (.getfield 166, 3) := by decide +kernel
theorem dX4_kinds_20 : decode cX4_kinds 20 = .ok (.astore_n 2, 1) := by decide +kernel
theorem dX4_kinds_21 : decode cX4_kinds 21 = .ok (.aload_n 2, 1) := by decide +kernel
theorem dX4_kinds_22 : decode cX4_kinds 22 = .ok (.aload_n 0, 1) := by decide +kernel
theorem dX4_kinds_23 : decode cX4_kinds 23 = .ok (.getfield 12, 3) := by decide +kernel
theorem dX4_kinds_26 : decode cX4_kinds 26 = .ok (.invokevirtual 167, 3) := by decide +kernel
theorem dX4_kinds_29 : decode cX4_kinds 29 = .ok (.iconst 0, 1) := by decide +kernel
theorem dX4_kinds_30 : decode cX4_kinds 30 = .ok (.istore_n 3, 1) := by decide +kernel
theorem dX4_kinds_31 : decode cX4_kinds 31 = .ok (.iconst 0, 1) := by decide +kernel
theorem dX4_kinds_32 : decode cX4_kinds 32 = .ok (.istore 4, 2) := by decide +kernel
theorem dX4_kinds_34 : decode cX4_kinds 34 = .ok (.iload 4, 2) := by decide +kernel
theorem dX4_kinds_36 : decode cX4_kinds 36 = .ok (.iconst 2, 1) := by decide +kernel
theorem dX4_kinds_37 : decode cX4_kinds 37 = .ok (.if_icmp .gt 35, 3) := by decide +kernel
theorem dX4_kinds_40 : decode cX4_kinds 40 = .ok (.aload_n 2, 1) := by decide +kernel
theorem dX4_kinds_41 : decode cX4_kinds 41 = .ok (.getfield 84, 3) := by decide +kernel
theorem dX4_kinds_44 : decode cX4_kinds 44 = .ok (.iload_n 1, 1) := by decide +kernel
theorem dX4_kinds_45 : decode cX4_kinds 45 = .ok (.iload 4, 2) := by decide +kernel
theorem dX4_kinds_47 : decode cX4_kinds 47 = .ok (.iastore, 1) := by decide +kernel
theorem dX4_kinds_48 : decode cX4_kinds 48 = .ok (.aload_n 0, 1) := by decide +kernel
theorem dX4_kinds_49 : decode cX4_kinds 49 = .ok (.getfield 28, 3) := by decide +kernel
theorem dX4_kinds_52 : decode cX4_kinds 52 = .ok (.aload_n 2, 1) := by decide +kernel
theorem dX4_kinds_53 : decode cX4_kinds 53 = .ok (.invokevirtual 171, 3) := by decide +kernel
theorem dX4_kinds_56 : decode cX4_kinds 56 = .ok (.ifCond .eq 10, 3) := by decide +kernel
theorem dX4_kinds_59 : decode cX4_kinds 59 = .ok (.iload_n 3, 1) := by decide +kernel
theorem dX4_kinds_60 : decode cX4_kinds 60 = .ok (.iconst 1, 1) := by decide +kernel
theorem dX4_kinds_61 : decode cX4_kinds 61 = .ok (.iload 4, 2) := by decide +kernel
theorem dX4_kinds_63 : decode cX4_kinds 63 = .ok (.ishl, 1) := by decide +kernel
theorem dX4_kinds_64 : decode cX4_kinds 64 = .ok (.ior, 1) := by decide +kernel
theorem dX4_kinds_65 : decode cX4_kinds 65 = .ok (.istore_n 3, 1) := by decide +kernel
theorem dX4_kinds_66 : decode cX4_kinds 66 = .ok (.iinc 4 1, 3) := by decide +kernel
theorem dX4_kinds_69 : decode cX4_kinds 69 = .ok (.goto (-35), 3) := by decide +kernel
theorem dX4_kinds_72 : decode cX4_kinds 72 = .ok (.iload_n 3, 1) := by decide +kernel
theorem dX4_kinds_73 : decode cX4_kinds 73 = .ok (.ireturn, 1) := by decide +kernel
theorem dX4_suns_0 : decode cX4_suns 0 = .ok (.aload_n 0, 1) := by decide +kernel
theorem dX4_suns_1 : decode cX4_suns 1 = .ok (.getfield 12, 3) := by decide +kernel
theorem dX4_suns_4 : decode cX4_suns 4 = .ok (.invokevirtual 111, 3) := by decide +kernel
theorem dX4_suns_7 : decode cX4_suns 7 = .ok (.ifCond .ne 6, 3) := by decide +kernel
theorem dX4_suns_10 : decode cX4_suns 10 = .ok (.bipush (-3), 2) := by decide +kernel
theorem dX4_suns_12 : decode cX4_suns 12 = .ok (.ireturn, 1) := by decide +kernel
theorem dX4_suns_13 : decode cX4_suns 13 = .ok (.aload_n 0, 1) := by decide +kernel
theorem dX4_suns_14 : decode cX4_suns 14 = .ok (.getfield 21, 3) := by decide +kernel
theorem dX4_suns_17 : decode cX4_suns 17 = .ok (.getfield 166, 3) := by decide +kernel
theorem dX4_suns_20 : decode cX4_suns 20 = .ok (.astore_n 1, 1) := by decide +kernel
theorem dX4_suns_21 : decode cX4_suns 21 = .ok (.aload_n 1, 1) := by decide +kernel
theorem dX4_suns_22 : decode cX4_suns 22 = .ok (.aload_n 0, 1) := by decide +kernel
theorem dX4_suns_23 : decode cX4_suns 23 = .ok (.getfield 12, 3) := by decide +kernel
theorem dX4_suns_26 : decode cX4_suns 26 = .ok (.invokevirtual 167, 3) := by decide +kernel
theorem dX4_suns_29 : decode cX4_suns 29 = .ok (.iconst 0, 1) := by decide +kernel
theorem dX4_suns_30 : decode cX4_suns 30 = .ok (.istore_n 2, 1) := by decide +kernel
theorem dX4_suns_31 : decode cX4_suns 31 = .ok (.iconst 0, 1) := by decide +kernel
theorem dX4_suns_32 : decode cX4_suns 32 = .ok (.istore_n 3, 1) := by decide +kernel
theorem dX4_suns_33 : decode cX4_suns 33 = .ok (.iload_n 3, 1) := by decide +kernel
theorem dX4_suns_34 : decode cX4_suns 34 = .ok (.bipush 9, 2) := by decide +kernel
theorem dX4_suns_36 : decode cX4_suns 36 = .ok (.if_icmp .gt 31, 3) := by decide +kernel
theorem dX4_suns_39 : decode cX4_suns 39 = .ok (.aload_n 1, 1) := by decide +kernel
theorem dX4_suns_40 : decode cX4_suns 40 = .ok (.iload_n 3, 1) := by decide +kernel
theorem dX4_suns_41 : decode cX4_suns 41 = .ok (.putfield 115, 3) := by decide +kernel
theorem dX4_suns_44 : decode cX4_suns 44 = .ok (.aload_n 0, 1) := by decide +kernel
theorem dX4_suns_45 : decode cX4_suns 45 = .ok (.getfield 28, 3) := by decide +kernel
theorem dX4_suns_48 : decode cX4_suns 48 = .ok (.aload_n 1, 1) := by decide +kernel
theorem dX4_suns_49 : decode cX4_suns 49 = .ok (.invokevirtual 171, 3) := by decide +kernel
theorem dX4_suns_52 : decode cX4_suns 52 = .ok (.ifCond .eq 9, 3) := by decide +kernel
theorem dX4_suns_55 : decode cX4_suns 55 = .ok (.iload_n 2, 1) := by decide +kernel
theorem dX4_suns_56 : decode cX4_suns 56 = .ok (.iconst 1, 1) := by decide +kernel
theorem dX4_suns_57 : decode cX4_suns 57 = .ok (.iload_n 3, 1) := by decide +kernel
theorem dX4_suns_58 : decode cX4_suns 58 = .ok (.ishl, 1) := by decide +kernel
theorem dX4_suns_59 : decode cX4_suns 59 = .ok (.ior, 1) := by decide +kernel
theorem dX4_suns_60 : decode cX4_suns 60 = .ok (.istore_n 2, 1) := by decide +kernel
theorem dX4_suns_61 : decode cX4_suns 61 = .ok (.iinc 3 1, 3) := by decide +kernel
theorem dX4_suns_64 : decode cX4_suns 64 = .ok (.goto (-31), 3) := by decide +kernel
theorem dX4_suns_67 : decode cX4_suns 67 = .ok (.iload_n 2, 1) := by decide +kernel
theorem dX4_suns_68 : decode cX4_suns 68 = .ok (.ireturn, 1) := by decide +kernel
theorem dX4_odds_0 : decode cX4_odds 0 = .ok (.iload_n 1, 1) := by decide +kernel
theorem dX4_odds_1 : decode cX4_odds 1 = .ok (.iconst 0, 1) := by decide +kernel
theorem dX4_odds_2 : decode cX4_odds 2 = .ok (.iconst 1, 1) := by decide +kernel
theorem dX4_odds_3 : decode cX4_odds 3 = .ok (.invokestatic 107, 3) := by decide +kernel
theorem dX4_odds_6 : decode cX4_odds 6 = .ok (.ifCond .eq 13, 3) := by decide +kernel
theorem dX4_odds_9 : decode cX4_odds 9 = .ok (.aload_n 0, 1) := by decide +kernel
theorem dX4_odds_10 : decode cX4_odds 10 = .ok (.getfield 12, 3) := by decide +kernel
theorem dX4_odds_13 : decode cX4_odds 13 = .ok (.invokevirtual 111, 3) := by decide +kernel
theorem dX4_odds_16 : decode cX4_odds 16 = .ok (.ifCond .ne 7, 3) := by decide +kernel
theorem dX4_odds_19 : decode cX4_odds 19 = .ok (.ldc2_w 175, 3) := by decide +kernel
theorem dX4_odds_22 : decode cX4_odds 22 = .ok (.lreturn, 1) := by decide +kernel
theorem dX4_odds_23 : decode cX4_odds 23 = .ok (.aload_n 0, 1) := by decide +kernel
theorem dX4_odds_24 : decode cX4_odds 24 = .ok (.getfield 12, 3) := by decide +kernel
theorem dX4_odds_27 : decode cX4_odds 27 = .ok (.invokevirtual 177, 3) := by decide +kernel
theorem dX4_odds_30 : decode cX4_odds 30 = .ok (.istore_n 2, 1) := by decide +kernel
theorem dX4_odds_31 : decode cX4_odds 31 = .ok (.iconst 1, 1) := by decide +kernel
theorem dX4_odds_32 : decode cX4_odds 32 = .ok (.aload_n 0, 1) := by decide +kernel
theorem dX4_odds_33 : decode cX4_odds 33 = .ok (.getfield 12, 3) := by decide +kernel
theorem dX4_odds_36 : decode cX4_odds 36 = .ok (.invokevirtual 94, 3) := by decide +kernel
theorem dX4_odds_39 : decode cX4_odds 39 = .ok (.invokestatic 102, 3) := by decide +kernel
theorem dX4_odds_42 : decode cX4_odds 42 = .ok (.ishl, 1) := by decide +kernel
theorem dX4_odds_43 : decode cX4_odds 43 = .ok (.istore_n 3, 1) := by decide +kernel
theorem dX4_odds_44 : decode cX4_odds 44 = .ok (.iconst 0, 1) := by decide +kernel
theorem dX4_odds_45 : decode cX4_odds 45 = .ok (.istore 4, 2) := by decide +kernel
theorem dX4_odds_47 : decode cX4_odds 47 = .ok (.iload 4, 2) := by decide +kernel
theorem dX4_odds_49 : decode cX4_odds 49 = .ok (.bipush 12, 2) := by decide +kernel
theorem dX4_odds_51 : decode cX4_odds 51 = .ok (.if_icmp .ge 28, 3) := by decide +kernel
theorem dX4_odds_54 : decode cX4_odds 54 = .ok (.iload_n 3, 1) := by decide +kernel
theorem dX4_odds_55 : decode cX4_odds 55 = .ok (.iconst 1, 1) := by decide +kernel
theorem dX4_odds_56 : decode cX4_odds 56 = .ok (.if_icmp .le 23, 3) := by decide +kernel
theorem dX4_odds_59 : decode cX4_odds 59 = .ok (.iload_n 2, 1) := by decide +kernel
theorem dX4_odds_60 : decode cX4_odds 60 = .ok (.iconst 1, 1) := by decide +kernel
theorem dX4_odds_61 : decode cX4_odds 61 = .ok (.iand, 1) := by decide +kernel
theorem dX4_odds_62 : decode cX4_odds 62 = .ok (.ifCond .ne 17, 3) := by decide +kernel
theorem dX4_odds_65 : decode cX4_odds 65 = .ok (.iload_n 2, 1) := by decide +kernel
theorem dX4_odds_66 : decode cX4_odds 66 = .ok (.iconst 1, 1) := by decide +kernel
theorem dX4_odds_67 : decode cX4_odds 67 = .ok (.ishr, 1) := by decide +kernel
theorem dX4_odds_68 : decode cX4_odds 68 = .ok (.istore_n 2, 1) := by decide +kernel
theorem dX4_odds_69 : decode cX4_odds 69 = .ok (.iload_n 3, 1) := by decide +kernel
theorem dX4_odds_70 : decode cX4_odds 70 = .ok (.iconst 1, 1) := by decide +kernel
theorem dX4_odds_71 : decode cX4_odds 71 = .ok (.ishr, 1) := by decide +kernel
theorem dX4_odds_72 : decode cX4_odds 72 = .ok (.istore_n 3, 1) := by decide +kernel
theorem dX4_odds_73 : decode cX4_odds 73 = .ok (.iinc 4 1, 3) := by decide +kernel
theorem dX4_odds_76 : decode cX4_odds 76 = .ok (.goto (-29), 3) := by decide +kernel
theorem dX4_odds_79 : decode cX4_odds 79 = .ok (.iload_n 1, 1) := by decide +kernel
theorem dX4_odds_80 : decode cX4_odds 80 = .ok (.ifCond .ne 8, 3) := by decide +kernel
theorem dX4_odds_83 : decode cX4_odds 83 = .ok (.iload_n 2, 1) := by decide +kernel
theorem dX4_odds_84 : decode cX4_odds 84 = .ok (.i2l, 1) := by decide +kernel
theorem dX4_odds_85 : decode cX4_odds 85 = .ok (.goto 5, 3) := by decide +kernel
theorem dX4_odds_88 : decode cX4_odds 88 = .ok (.iload_n 3, 1) := by decide +kernel
theorem dX4_odds_89 : decode cX4_odds 89 = .ok (.i2l, 1) := by decide +kernel
theorem dX4_odds_90 : decode cX4_odds 90 = .ok (.lreturn, 1) := by decide +kernel
theorem dX4_sheet_0 : decode cX4_sheet 0 = .ok (.aload_n 0, 1) := by decide +kernel
theorem dX4_sheet_1 : decode cX4_sheet 1 = .ok (.iconst 0, 1) := by decide +kernel
theorem dX4_sheet_2 : decode cX4_sheet 2 = .ok (.putfield 46, 3) := by decide +kernel
theorem dX4_sheet_5 : decode cX4_sheet 5 = .ok (.iload_n 1, 1) := by decide +kernel
theorem dX4_sheet_6 : decode cX4_sheet 6 = .ok (.invokestatic 49, 3) := by decide +kernel
theorem dX4_sheet_9 : decode cX4_sheet 9 = .ok (.ifCond .ne 5, 3) := by decide +kernel
theorem dX4_sheet_12 : decode cX4_sheet 12 = .ok (.iconst (-1), 1) := by decide +kernel
theorem dX4_sheet_13 : decode cX4_sheet 13 = .ok (.ireturn, 1) := by decide +kernel
theorem dX4_sheet_14 : decode cX4_sheet 14 = .ok (.iload_n 2, 1) := by decide +kernel
theorem dX4_sheet_15 : decode cX4_sheet 15 = .ok (.invokestatic 53, 3) := by decide +kernel
theorem dX4_sheet_18 : decode cX4_sheet 18 = .ok (.ifCond .eq 9, 3) := by decide +kernel
theorem dX4_sheet_21 : decode cX4_sheet 21 = .ok (.iload_n 3, 1) := by decide +kernel
theorem dX4_sheet_22 : decode cX4_sheet 22 = .ok (.bipush 60, 2) := by decide +kernel
theorem dX4_sheet_24 : decode cX4_sheet 24 = .ok (.if_icmp .le 6, 3) := by decide +kernel
theorem dX4_sheet_27 : decode cX4_sheet 27 = .ok (.bipush (-2), 2) := by decide +kernel
theorem dX4_sheet_29 : decode cX4_sheet 29 = .ok (.ireturn, 1) := by decide +kernel
theorem dX4_sheet_30 : decode cX4_sheet 30 = .ok (.iload_n 3, 1) := by decide +kernel
theorem dX4_sheet_31 : decode cX4_sheet 31 = .ok (.ifCond .ge 9, 3) := by decide +kernel
theorem dX4_sheet_34 : decode cX4_sheet 34 = .ok (.aload_n 0, 1) := by decide +kernel
theorem dX4_sheet_35 : decode cX4_sheet 35 = .ok (.iconst 4, 1) := by decide +kernel
theorem dX4_sheet_36 : decode cX4_sheet 36 = .ok (.invokevirtual 64, 3) := by decide +kernel
theorem dX4_sheet_39 : decode cX4_sheet 39 = .ok (.ireturn, 1) := by decide +kernel
theorem dX4_sheet_40 : decode cX4_sheet 40 = .ok (.aload_n 0, 1) := by decide +kernel
theorem dX4_sheet_41 : decode cX4_sheet 41 = .ok (.getfield 34, 3) := by decide +kernel
theorem dX4_sheet_44 : decode cX4_sheet 44 = .ok (.iload_n 1, 1) := by decide +kernel
theorem dX4_sheet_45 : decode cX4_sheet 45 = .ok (.aaload, 1) := by decide +kernel
theorem dX4_sheet_46 : decode cX4_sheet 46 = .ok (.iload_n 2, 1) := by decide +kernel
theorem dX4_sheet_47 : decode cX4_sheet 47 = .ok (.iload_n 3, 1) := by decide +kernel
theorem dX4_sheet_48 : decode cX4_sheet 48 = .ok (.invokevirtual 180, 3) := by decide +kernel
theorem dX4_sheet_51 : decode cX4_sheet 51 = .ok (.iconst 1, 1) := by decide +kernel
theorem dX4_sheet_52 : decode cX4_sheet 52 = .ok (.ireturn, 1) := by decide +kernel
theorem dX4_lose_0 : decode cX4_lose 0 = .ok (.iload_n 1, 1) := by decide +kernel
theorem dX4_lose_1 : decode cX4_lose 1 = .ok (.invokestatic 49, 3) := by decide +kernel
theorem dX4_lose_4 : decode cX4_lose 4 = .ok (.ifCond .ne 5, 3) := by decide +kernel
theorem dX4_lose_7 : decode cX4_lose 7 = .ok (.iconst (-1), 1) := by decide +kernel
theorem dX4_lose_8 : decode cX4_lose 8 = .ok (.ireturn, 1) := by decide +kernel
theorem dX4_lose_9 : decode cX4_lose 9 = .ok (.aload_n 0, 1) := by decide +kernel
theorem dX4_lose_10 : decode cX4_lose 10 = .ok (.getfield 34, 3) := by decide +kernel
theorem dX4_lose_13 : decode cX4_lose 13 = .ok (.iload_n 1, 1) := by decide +kernel
theorem dX4_lose_14 : decode cX4_lose 14 = .ok (.aaload, 1) := by decide +kernel
theorem dX4_lose_15 : decode cX4_lose 15 = .ok (.invokevirtual 184, 3) := by decide +kernel
theorem dX4_lose_18 : decode cX4_lose 18 = .ok (.ifCond .eq 7, 3) := by decide +kernel
theorem dX4_lose_21 : decode cX4_lose 21 = .ok (.iconst 0, 1) := by decide +kernel
theorem dX4_lose_22 : decode cX4_lose 22 = .ok (.goto 4, 3) := by decide +kernel
theorem dX4_lose_25 : decode cX4_lose 25 = .ok (.iconst 1, 1) := by decide +kernel
theorem dX4_lose_26 : decode cX4_lose 26 = .ok (.istore_n 2, 1) := by decide +kernel
theorem dX4_lose_27 : decode cX4_lose 27 = .ok (.aload_n 0, 1) := by decide +kernel
theorem dX4_lose_28 : decode cX4_lose 28 = .ok (.getfield 34, 3) := by decide +kernel
theorem dX4_lose_31 : decode cX4_lose 31 = .ok (.iload_n 1, 1) := by decide +kernel
theorem dX4_lose_32 : decode cX4_lose 32 = .ok (.aaload, 1) := by decide +kernel
theorem dX4_lose_33 : decode cX4_lose 33 = .ok (.invokevirtual 187, 3) := by decide +kernel
theorem dX4_lose_36 : decode cX4_lose 36 = .ok (.iload_n 2, 1) := by decide +kernel
theorem dX4_lose_37 : decode cX4_lose 37 = .ok (.ireturn, 1) := by decide +kernel
theorem dX4_put_0 : decode cX4_put 0 = .ok (.aload_n 0, 1) := by decide +kernel
theorem dX4_put_1 : decode cX4_put 1 = .ok (.iconst 0, 1) := by decide +kernel
theorem dX4_put_2 : decode cX4_put 2 = .ok (.putfield 46, 3) := by decide +kernel
theorem dX4_put_5 : decode cX4_put 5 = .ok (.iload_n 1, 1) := by decide +kernel
theorem dX4_put_6 : decode cX4_put 6 = .ok (.invokestatic 49, 3) := by decide +kernel
theorem dX4_put_9 : decode cX4_put 9 = .ok (.ifCond .ne 5, 3) := by decide +kernel
theorem dX4_put_12 : decode cX4_put 12 = .ok (.iconst (-1), 1) := by decide +kernel
theorem dX4_put_13 : decode cX4_put 13 = .ok (.ireturn, 1) := by decide +kernel
theorem dX4_put_14 : decode cX4_put 14 = .ok (.aload_n 0, 1) := by decide +kernel
theorem dX4_put_15 : decode cX4_put 15 = .ok (.getfield 34, 3) := by decide +kernel
theorem dX4_put_18 : decode cX4_put 18 = .ok (.iload_n 1, 1) := by decide +kernel
theorem dX4_put_19 : decode cX4_put 19 = .ok (.aaload, 1) := by decide +kernel
theorem dX4_put_20 : decode cX4_put 20 = .ok (.astore 4, 2) := by decide +kernel
theorem dX4_put_22 : decode cX4_put 22 = .ok (.aload 4, 2) := by decide +kernel
theorem dX4_put_24 : decode cX4_put 24 = .ok (.invokevirtual 184, 3) := by decide +kernel
theorem dX4_put_27 : decode cX4_put 27 = .ok (.ifCond .eq 9, 3) := by decide +kernel
theorem dX4_put_30 : decode cX4_put 30 = .ok (.aload_n 0, 1) := by decide +kernel
theorem dX4_put_31 : decode cX4_put 31 = .ok (.iconst 1, 1) := by decide +kernel
theorem dX4_put_32 : decode cX4_put 32 = .ok (.invokevirtual 64, 3) := by decide +kernel
theorem dX4_put_35 : decode cX4_put 35 = .ok (.ireturn, 1) := by decide +kernel
theorem dX4_put_36 : decode cX4_put 36 = .ok (.aload 4, 2) := by decide +kernel
theorem dX4_put_38 : decode cX4_put 38 = .ok (.iload_n 2, 1) := by decide +kernel
theorem dX4_put_39 : decode cX4_put 39 = .ok (.invokevirtual 190, 3) := by decide +kernel
theorem dX4_put_42 : decode cX4_put 42 = .ok (.ifCond .ne 9, 3) := by decide +kernel
theorem dX4_put_45 : decode cX4_put 45 = .ok (.aload_n 0, 1) := by decide +kernel
theorem dX4_put_46 : decode cX4_put 46 = .ok (.iconst 3, 1) := by decide +kernel
theorem dX4_put_47 : decode cX4_put 47 = .ok (.invokevirtual 64, 3) := by decide +kernel
theorem dX4_put_50 : decode cX4_put 50 = .ok (.ireturn, 1) := by decide +kernel
theorem dX4_put_51 : decode cX4_put 51 = .ok (.aload 4, 2) := by decide +kernel
theorem dX4_put_53 : decode cX4_put 53 = .ok (.iload_n 2, 1) := by decide +kernel
theorem dX4_put_54 : decode cX4_put 54 = .ok (.iload_n 3, 1) := by decide +kernel
theorem dX4_put_55 : decode cX4_put 55 = .ok (.invokevirtual 193, 3) := by decide +kernel
theorem dX4_put_58 : decode cX4_put 58 = .ok (.iconst 1, 1) := by decide +kernel
theorem dX4_put_59 : decode cX4_put 59 = .ok (.ireturn, 1) := by decide +kernel
theorem dX4_cell_0 : decode cX4_cell 0 = .ok (.aload_n 0, 1) := by decide +kernel
theorem dX4_cell_1 : decode cX4_cell 1 = .ok (.iconst 0, 1) := by decide +kernel
theorem dX4_cell_2 : decode cX4_cell 2 = .ok (.putfield 46, 3) := by decide +kernel
theorem dX4_cell_5 : decode cX4_cell 5 = .ok (.iload_n 1, 1) := by decide +kernel
theorem dX4_cell_6 : decode cX4_cell 6 = .ok (.invokestatic 49, 3) := by decide +kernel
theorem dX4_cell_9 : decode cX4_cell 9 = .ok (.ifCond .eq 10, 3) := by decide +kernel
theorem dX4_cell_12 : decode cX4_cell 12 = .ok (.iload_n 3, 1) := by decide +kernel
theorem dX4_cell_13 : decode cX4_cell 13 = .ok (.invokestatic 53, 3) := by decide +kernel
theorem dX4_cell_16 : decode cX4_cell 16 = .ok (.ifCond .ne 7, 3) := by decide +kernel
theorem dX4_cell_19 : decode cX4_cell 19 = .ok (.ldc2_w 175, 3) := by decide +kernel
theorem dX4_cell_22 : decode cX4_cell 22 = .ok (.lreturn, 1) := by decide +kernel
theorem dX4_cell_23 : decode cX4_cell 23 = .ok (.aload_n 0, 1) := by decide +kernel
theorem dX4_cell_24 : decode cX4_cell 24 = .ok (.getfield 34, 3) := by decide +kernel
theorem dX4_cell_27 : decode cX4_cell 27 = .ok (.iload_n 1, 1) := by decide +kernel
theorem dX4_cell_28 : decode cX4_cell 28 = .ok (.aaload, 1) := by decide +kernel
theorem dX4_cell_29 : decode cX4_cell 29 = .ok (.astore 4, 2) := by decide +kernel
theorem dX4_cell_31 : decode cX4_cell 31 = .ok (.aload_n 0, 1) := by decide +kernel
theorem dX4_cell_32 : decode cX4_cell 32 = .ok (.aload 4, 2) := by decide +kernel
theorem dX4_cell_34 : decode cX4_cell 34 = .ok (.iload_n 3, 1) := by decide +kernel
theorem dX4_cell_35 : decode cX4_cell 35 = .ok (.invokevirtual 56, 3) := by decide +kernel
theorem dX4_cell_38 : decode cX4_cell 38 = .ok (.putfield 46, 3) := by decide +kernel
theorem dX4_cell_41 : decode cX4_cell 41 = .ok (.aload_n 0, 1) := by decide +kernel
theorem dX4_cell_42 : decode cX4_cell 42 = .ok (.getfield 46, 3) := by decide +kernel
theorem dX4_cell_45 : decode cX4_cell 45 = .ok (.ifCond .ne 17, 3) := by decide +kernel
theorem dX4_cell_48 : decode cX4_cell 48 = .ok (.aload 4, 2) := by decide +kernel
theorem dX4_cell_50 : decode cX4_cell 50 = .ok (.iload_n 2, 1) := by decide +kernel
theorem dX4_cell_51 : decode cX4_cell 51 = .ok (.invokevirtual 190, 3) := by decide +kernel
theorem dX4_cell_54 : decode cX4_cell 54 = .ok (.ifCond .ne 8, 3) := by decide +kernel
theorem dX4_cell_57 : decode cX4_cell 57 = .ok (.aload_n 0, 1) := by decide +kernel
theorem dX4_cell_58 : decode cX4_cell 58 = .ok (.iconst 3, 1) := by decide +kernel
theorem dX4_cell_59 : decode cX4_cell 59 = .ok (.putfield 46, 3) := by decide +kernel
theorem dX4_cell_62 : decode cX4_cell 62 = .ok (.aload_n 0, 1) := by decide +kernel
theorem dX4_cell_63 : decode cX4_cell 63 = .ok (.getfield 46, 3) := by decide +kernel
theorem dX4_cell_66 : decode cX4_cell 66 = .ok (.ifCond .ne 13, 3) := by decide +kernel
theorem dX4_cell_69 : decode cX4_cell 69 = .ok (.aload 4, 2) := by decide +kernel
theorem dX4_cell_71 : decode cX4_cell 71 = .ok (.iload_n 2, 1) := by decide +kernel
theorem dX4_cell_72 : decode cX4_cell 72 = .ok (.invokevirtual 196, 3) := by decide +kernel
theorem dX4_cell_75 : decode cX4_cell 75 = .ok (.i2l, 1) := by decide +kernel
theorem dX4_cell_76 : decode cX4_cell 76 = .ok (.goto 6, 3) := by decide +kernel
theorem dX4_cell_79 : decode cX4_cell 79 = .ok (.ldc2_w 175, 3) := by decide +kernel
theorem dX4_cell_82 : decode cX4_cell 82 = .ok (.lreturn, 1) := by decide +kernel
theorem dX4_copy_0 : decode cX4_copy 0 = .ok (.aload_n 0, 1) := by decide +kernel
theorem dX4_copy_1 : decode cX4_copy 1 = .ok (.iconst 0, 1) := by decide +kernel
theorem dX4_copy_2 : decode cX4_copy 2 = .ok (.putfield 46, 3) := by decide +kernel
theorem dX4_copy_5 : decode cX4_copy 5 = .ok (.iload_n 1, 1) := by decide +kernel
theorem dX4_copy_6 : decode cX4_copy 6 = .ok (.invokestatic 49, 3) := by decide +kernel
theorem dX4_copy_9 : decode cX4_copy 9 = .ok (.ifCond .eq 10, 3) := by decide +kernel
theorem dX4_copy_12 : decode cX4_copy 12 = .ok (.iload_n 3, 1) := by decide +kernel
theorem dX4_copy_13 : decode cX4_copy 13 = .ok (.invokestatic 49, 3) := by decide +kernel
theorem dX4_copy_16 : decode cX4_copy 16 = .ok (.ifCond .ne 5, 3) := by decide +kernel
theorem dX4_copy_19 : decode cX4_copy 19 = .ok (.iconst (-1), 1) := by decide +kernel
theorem dX4_copy_20 : decode cX4_copy 20 = .ok (.ireturn, 1) := by decide +kernel
theorem dX4_copy_21 : decode cX4_copy 21 = .ok (.aload_n 0, 1) := by decide +kernel
theorem dX4_copy_22 : decode cX4_copy 22 = .ok (.getfield 34, 3) := by decide +kernel
theorem dX4_copy_25 : decode cX4_copy 25 = .ok (.iload_n 1, 1) := by decide +kernel
theorem dX4_copy_26 : decode cX4_copy 26 = .ok (.aaload, 1) := by decide +kernel
theorem dX4_copy_27 : decode cX4_copy 27 = .ok (.astore 6, 2) := by decide +kernel
theorem dX4_copy_29 : decode cX4_copy 29 = .ok (.aload_n 0, 1) := by decide +kernel
theorem dX4_copy_30 : decode cX4_copy 30 = .ok (.getfield 34, 3) := by decide +kernel
theorem dX4_copy_33 : decode cX4_copy 33 = .ok (.iload_n 3, 1) := by decide +kernel
theorem dX4_copy_34 : decode cX4_copy 34 = .ok (.aaload, 1) := by decide +kernel
theorem dX4_copy_35 : decode cX4_copy 35 = .ok (.astore 7, 2) := by decide +kernel
theorem dX4_copy_37 : decode cX4_copy 37 = .ok (.aload 6, 2) := by decide +kernel
theorem dX4_copy_39 : decode cX4_copy 39 = .ok (.invokevirtual 184, 3) := by decide +kernel
theorem dX4_copy_42 : decode cX4_copy 42 = .ok (.ifCond .ne 11, 3) := by decide +kernel
theorem dX4_copy_45 : decode cX4_copy 45 = .ok (.aload 7, 2) := by decide +kernel
theorem dX4_copy_47 : decode cX4_copy 47 = .ok (.invokevirtual 184, 3) := by decide +kernel
theorem dX4_copy_50 : decode cX4_copy 50 = .ok (.ifCond .eq 9, 3) := by decide +kernel
theorem dX4_copy_53 : decode cX4_copy 53 = .ok (.aload_n 0, 1) := by decide +kernel
theorem dX4_copy_54 : decode cX4_copy 54 = .ok (.iconst 1, 1) := by decide +kernel
theorem dX4_copy_55 : decode cX4_copy 55 = .ok (.invokevirtual 64, 3) := by decide +kernel
theorem dX4_copy_58 : decode cX4_copy 58 = .ok (.ireturn, 1) := by decide +kernel
theorem dX4_copy_59 : decode cX4_copy 59 = .ok (.aload 6, 2) := by decide +kernel
theorem dX4_copy_61 : decode cX4_copy 61 = .ok (.getfield 199, 3) := by decide +kernel
theorem dX4_copy_64 : decode cX4_copy 64 = .ok (.aload 7, 2) := by decide +kernel
theorem dX4_copy_66 : decode cX4_copy 66 = .ok (.getfield 199, 3) := by decide +kernel
theorem dX4_copy_69 : decode cX4_copy 69 = .ok (.if_icmp .eq 9, 3) := by decide +kernel
theorem dX4_copy_72 : decode cX4_copy 72 = .ok (.aload_n 0, 1) := by decide +kernel
theorem dX4_copy_73 : decode cX4_copy 73 = .ok (.iconst 2, 1) := by decide +kernel
theorem dX4_copy_74 : decode cX4_copy 74 = .ok (.invokevirtual 64, 3) := by decide +kernel
theorem dX4_copy_77 : decode cX4_copy 77 = .ok (.ireturn, 1) := by decide +kernel
theorem dX4_copy_78 : decode cX4_copy 78 = .ok (.aload 6, 2) := by decide +kernel
theorem dX4_copy_80 : decode cX4_copy 80 = .ok (.iload_n 2, 1) := by decide +kernel
theorem dX4_copy_81 : decode cX4_copy 81 = .ok (.iload 5, 2) := by decide +kernel
theorem dX4_copy_83 : decode cX4_copy 83 = .ok (.invokevirtual 60, 3) := by decide +kernel
theorem dX4_copy_86 : decode cX4_copy 86 = .ok (.ifCond .eq 15, 3) := by decide +kernel
theorem dX4_copy_89 : decode cX4_copy 89 = .ok (.aload 7, 2) := by decide +kernel
theorem dX4_copy_91 : decode cX4_copy 91 = .ok (.iload 4, 2) := by decide +kernel
theorem dX4_copy_93 : decode cX4_copy 93 = .ok (.iload 5, 2) := by decide +kernel
theorem dX4_copy_95 : decode cX4_copy 95 = .ok (.invokevirtual 60, 3) := by decide +kernel
theorem dX4_copy_98 : decode cX4_copy 98 = .ok (.ifCond .ne 9, 3) := by decide +kernel
theorem dX4_copy_101 : decode cX4_copy 101 = .ok (.aload_n 0, 1) := by decide +kernel
theorem dX4_copy_102 : decode cX4_copy 102 = .ok (.iconst 3, 1) := by decide +kernel
theorem dX4_copy_103 : decode cX4_copy 103 = .ok (.invokevirtual 64, 3) := by decide +kernel
theorem dX4_copy_106 : decode cX4_copy 106 = .ok (.ireturn, 1) := by decide +kernel
theorem dX4_copy_107 : decode cX4_copy 107 = .ok (.aload 6, 2) := by decide +kernel
theorem dX4_copy_109 : decode cX4_copy 109 = .ok (.getfield 202, 3) := by decide +kernel
theorem dX4_copy_112 : decode cX4_copy 112 = .ok (.iload_n 2, 1) := by decide +kernel
theorem dX4_copy_113 : decode cX4_copy 113 = .ok (.aload 7, 2) := by decide +kernel
theorem dX4_copy_115 : decode cX4_copy 115 = .ok (.getfield 202, 3) := by decide +kernel
theorem dX4_copy_118 : decode cX4_copy 118 = .ok (.iload 4, 2) := by decide +kernel
theorem dX4_copy_120 : decode cX4_copy 120 = .ok (.iload 5, 2) := by decide +kernel
theorem dX4_copy_122 : decode cX4_copy 122 = .ok (.invokestatic 205, 3) := by decide +kernel
theorem dX4_copy_125 : decode cX4_copy 125 = .ok (.iload 5, 2) := by decide +kernel
theorem dX4_copy_127 : decode cX4_copy 127 = .ok (.ireturn, 1) := by decide +kernel
theorem dX4_tell_0 : decode cX4_tell 0 = .ok (.aload_n 0, 1) := by decide +kernel
theorem dX4_tell_1 : decode cX4_tell 1 = .ok (.getfield 12, 3) := by decide +kernel
theorem dX4_tell_4 : decode cX4_tell 4 = .ok (.iload_n 1, 1) := by decide +kernel
theorem dX4_tell_5 : decode cX4_tell 5 = .ok (.invokevirtual 81, 3) := by decide +kernel
theorem dX4_tell_8 : decode cX4_tell 8 = .ok (.ifCond .ne 5, 3) := by decide +kernel
theorem dX4_tell_11 : decode cX4_tell 11 = .ok (.iconst (-1), 1) := by decide +kernel
theorem dX4_tell_12 : decode cX4_tell 12 = .ok (.ireturn, 1) := by decide +kernel
theorem dX4_tell_13 : decode cX4_tell 13 = .ok (.aload_n 0, 1) := by decide +kernel
theorem dX4_tell_14 : decode cX4_tell 14 = .ok (.getfield 12, 3) := by decide +kernel
theorem dX4_tell_17 : decode cX4_tell 17 = .ok (.getfield 84, 3) := by decide +kernel
theorem dX4_tell_20 : decode cX4_tell 20 = .ok (.iload_n 1, 1) := by decide +kernel
theorem dX4_tell_21 : decode cX4_tell 21 = .ok (.iaload, 1) := by decide +kernel
theorem dX4_tell_22 : decode cX4_tell 22 = .ok (.lookupswitch 38 #[(1, 26), (2, 32)], 26) := by decide +kernel
theorem dX4_tell_48 : decode cX4_tell 48 = .ok (.aload_n 0, 1) := by decide +kernel
theorem dX4_tell_49 : decode cX4_tell 49 = .ok (.iload_n 1, 1) := by decide +kernel
theorem dX4_tell_50 : decode cX4_tell 50 = .ok (.invokevirtual 211, 3) := by decide +kernel
theorem dX4_tell_53 : decode cX4_tell 53 = .ok (.ireturn, 1) := by decide +kernel
theorem dX4_tell_54 : decode cX4_tell 54 = .ok (.aload_n 0, 1) := by decide +kernel
theorem dX4_tell_55 : decode cX4_tell 55 = .ok (.iload_n 1, 1) := by decide +kernel
theorem dX4_tell_56 : decode cX4_tell 56 = .ok (.invokevirtual 214, 3) := by decide +kernel
theorem dX4_tell_59 : decode cX4_tell 59 = .ok (.ireturn, 1) := by decide +kernel
theorem dX4_tell_60 : decode cX4_tell 60 = .ok (.aload_n 0, 1) := by decide +kernel
theorem dX4_tell_61 : decode cX4_tell 61 = .ok (.iload_n 1, 1) := by decide +kernel
theorem dX4_tell_62 : decode cX4_tell 62 = .ok (.invokevirtual 217, 3) := by decide +kernel
theorem dX4_tell_65 : decode cX4_tell 65 = .ok (.ireturn, 1) := by decide +kernel
theorem dX4_draw_0 : decode cX4_draw 0 = .ok (.aload_n 0, 1) := by decide +kernel
theorem dX4_draw_1 : decode cX4_draw 1 = .ok (.getfield 12, 3) := by decide +kernel
theorem dX4_draw_4 : decode cX4_draw 4 = .ok (.iload_n 1, 1) := by decide +kernel
theorem dX4_draw_5 : decode cX4_draw 5 = .ok (.invokevirtual 81, 3) := by decide +kernel
theorem dX4_draw_8 : decode cX4_draw 8 = .ok (.ifCond .ne 5, 3) := by decide +kernel
theorem dX4_draw_11 : decode cX4_draw 11 = .ok (.iconst (-1), 1) := by decide +kernel
theorem dX4_draw_12 : decode cX4_draw 12 = .ok (.ireturn, 1) := by decide +kernel
theorem dX4_draw_13 : decode cX4_draw 13 = .ok (.aload_n 0, 1) := by decide +kernel
theorem dX4_draw_14 : decode cX4_draw 14 = .ok (.getfield 12, 3) := by decide +kernel
theorem dX4_draw_17 : decode cX4_draw 17 = .ok (.getfield 84, 3) := by decide +kernel
theorem dX4_draw_20 : decode cX4_draw 20 = .ok (.iload_n 1, 1) := by decide +kernel
theorem dX4_draw_21 : decode cX4_draw 21 = .ok (.iaload, 1) := by decide +kernel
theorem dX4_draw_22 : decode cX4_draw 22 = .ok (.iconst 2, 1) := by decide +kernel
theorem dX4_draw_23 : decode cX4_draw 23 = .ok (.if_icmp .ne 11, 3) := by decide +kernel
theorem dX4_draw_26 : decode cX4_draw 26 = .ok (.aload_n 0, 1) := by decide +kernel
theorem dX4_draw_27 : decode cX4_draw 27 = .ok (.iconst 5, 1) := by decide +kernel
theorem dX4_draw_28 : decode cX4_draw 28 = .ok (.invokevirtual 220, 3) := by decide +kernel
theorem dX4_draw_31 : decode cX4_draw 31 = .ok (.bipush 80, 2) := by decide +kernel
theorem dX4_draw_33 : decode cX4_draw 33 = .ok (.ireturn, 1) := by decide +kernel
theorem dX4_draw_34 : decode cX4_draw 34 = .ok (.aload_n 0, 1) := by decide +kernel
theorem dX4_draw_35 : decode cX4_draw 35 = .ok (.iconst 4, 1) := by decide +kernel
theorem dX4_draw_36 : decode cX4_draw 36 = .ok (.invokevirtual 220, 3) := by decide +kernel
theorem dX4_draw_39 : decode cX4_draw 39 = .ok (.iload_n 1, 1) := by decide +kernel
theorem dX4_draw_40 : decode cX4_draw 40 = .ok (.ireturn, 1) := by decide +kernel
theorem dX4_as_0 : decode cX4_as 0 = .ok (.aload_n 0, 1) := by decide +kernel
theorem dX4_as_1 : decode cX4_as 1 = .ok (.iconst 0, 1) := by decide +kernel
theorem dX4_as_2 : decode cX4_as 2 = .ok (.putfield 46, 3) := by decide +kernel
theorem dX4_as_5 : decode cX4_as 5 = .ok (.aload_n 0, 1) := by decide +kernel
theorem dX4_as_6 : decode cX4_as 6 = .ok (.getfield 12, 3) := by decide +kernel
theorem dX4_as_9 : decode cX4_as 9 = .ok (.iload_n 1, 1) := by decide +kernel
theorem dX4_as_10 : decode cX4_as 10 = .ok (.invokevirtual 81, 3) := by decide +kernel
theorem dX4_as_13 : decode cX4_as 13 = .ok (.ifCond .ne 5, 3) := by decide +kernel
theorem dX4_as_16 : decode cX4_as 16 = .ok (.iconst (-1), 1) := by decide +kernel
theorem dX4_as_17 : decode cX4_as 17 = .ok (.ireturn, 1) := by decide +kernel
theorem dX4_as_18 : decode cX4_as 18 = .ok (.iload_n 2, 1) := by decide +kernel
theorem dX4_as_19 : decode cX4_as 19 = .ok (.iconst 0, 1) := by decide +kernel
theorem dX4_as_20 : decode cX4_as 20 = .ok (.iconst 2, 1) := by decide +kernel
theorem dX4_as_21 : decode cX4_as 21 = .ok (.invokestatic 107, 3) := by decide +kernel
theorem dX4_as_24 : decode cX4_as 24 = .ok (.ifCond .ne 6, 3) := by decide +kernel
theorem dX4_as_27 : decode cX4_as 27 = .ok (.bipush (-2), 2) := by decide +kernel
theorem dX4_as_29 : decode cX4_as 29 = .ok (.ireturn, 1) := by decide +kernel
theorem dX4_as_30 : decode cX4_as 30 = .ok (.aload_n 0, 1) := by decide +kernel
theorem dX4_as_31 : decode cX4_as 31 = .ok (.getfield 12, 3) := by decide +kernel
theorem dX4_as_34 : decode cX4_as 34 = .ok (.getfield 84, 3) := by decide +kernel
theorem dX4_as_37 : decode cX4_as 37 = .ok (.iload_n 1, 1) := by decide +kernel
theorem dX4_as_38 : decode cX4_as 38 = .ok (.iaload, 1) := by decide +kernel
theorem dX4_as_39 : decode cX4_as 39 = .ok (.iload_n 2, 1) := by decide +kernel
theorem dX4_as_40 : decode cX4_as 40 = .ok (.if_icmp .ge 9, 3) := by decide +kernel
theorem dX4_as_43 : decode cX4_as 43 = .ok (.aload_n 0, 1) := by decide +kernel
theorem dX4_as_44 : decode cX4_as 44 = .ok (.iconst 2, 1) := by decide +kernel
theorem dX4_as_45 : decode cX4_as 45 = .ok (.invokevirtual 64, 3) := by decide +kernel
theorem dX4_as_48 : decode cX4_as 48 = .ok (.ireturn, 1) := by decide +kernel
theorem dX4_as_49 : decode cX4_as 49 = .ok (.iconst 1, 1) := by decide +kernel
theorem dX4_as_50 : decode cX4_as 50 = .ok (.ireturn, 1) := by decide +kernel
theorem dX4_trace_0 : decode cX4_trace 0 = .ok (.aload_n 0, 1) := by decide +kernel
theorem dX4_trace_1 : decode cX4_trace 1 = .ok (.getfield 43, 3) := by decide +kernel
theorem dX4_trace_4 : decode cX4_trace 4 = .ok (.ireturn, 1) := by decide +kernel
theorem dX4_fault_0 : decode cX4_fault 0 = .ok (.aload_n 0, 1) := by decide +kernel
theorem dX4_fault_1 : decode cX4_fault 1 = .ok (.getfield 46, 3) := by decide +kernel
theorem dX4_fault_4 : decode cX4_fault 4 = .ok (.ireturn, 1) := by decide +kernel
theorem dX4_many_0 : decode cX4_many 0 = .ok (.iload_n 1, 1) := by decide +kernel
theorem dX4_many_1 : decode cX4_many 1 = .ok (.tableswitch 87 0 5 #[39, 47, 55, 63, 68, 79], 39) := by decide +kernel
theorem dX4_many_40 : decode cX4_many 40 = .ok (.aload_n 0, 1) := by decide +kernel
theorem dX4_many_41 : decode cX4_many 41 = .ok (.getfield 12, 3) := by decide +kernel
theorem dX4_many_44 : decode cX4_many 44 = .ok (.getfield 223, 3) := by decide +kernel
theorem dX4_many_47 : decode cX4_many 47 = .ok (.ireturn, 1) := by decide +kernel
theorem dX4_many_48 : decode cX4_many 48 = .ok (.aload_n 0, 1) := by decide +kernel
theorem dX4_many_49 : decode cX4_many 49 = .ok (.getfield 12, 3) := by decide +kernel
theorem dX4_many_52 : decode cX4_many 52 = .ok (.getfield 226, 3) := by decide +kernel
theorem dX4_many_55 : decode cX4_many 55 = .ok (.ireturn, 1) := by decide +kernel
theorem dX4_many_56 : decode cX4_many 56 = .ok (.aload_n 0, 1) := by decide +kernel
theorem dX4_many_57 : decode cX4_many 57 = .ok (.getfield 12, 3) := by decide +kernel
theorem dX4_many_60 : decode cX4_many 60 = .ok (.getfield 115, 3) := by decide +kernel
theorem dX4_many_63 : decode cX4_many 63 = .ok (.ireturn, 1) := by decide +kernel
theorem dX4_many_64 : decode cX4_many 64 = .ok (.aload_n 0, 1) := by decide +kernel
theorem dX4_many_65 : decode cX4_many 65 = .ok (.getfield 39, 3) := by decide +kernel
theorem dX4_many_68 : decode cX4_many 68 = .ok (.ireturn, 1) := by decide +kernel
theorem dX4_many_69 : decode cX4_many 69 = .ok (.aload_n 0, 1) := by decide +kernel
theorem dX4_many_70 : decode cX4_many 70 = .ok (.getfield 12, 3) := by decide +kernel
theorem dX4_many_73 : decode cX4_many 73 = .ok (.invokevirtual 122, 3) := by decide +kernel
theorem dX4_many_76 : decode cX4_many 76 = .ok (.invokestatic 102, 3) := by decide +kernel
theorem dX4_many_79 : decode cX4_many 79 = .ok (.ireturn, 1) := by decide +kernel
theorem dX4_many_80 : decode cX4_many 80 = .ok (.aload_n 0, 1) := by decide +kernel
theorem dX4_many_81 : decode cX4_many 81 = .ok (.getfield 28, 3) := by decide +kernel
theorem dX4_many_84 : decode cX4_many 84 = .ok (.getfield 75, 3) := by decide +kernel
theorem dX4_many_87 : decode cX4_many 87 = .ok (.ireturn, 1) := by decide +kernel
theorem dX4_many_88 : decode cX4_many 88 = .ok (.bipush (-2), 2) := by decide +kernel
theorem dX4_many_90 : decode cX4_many 90 = .ok (.ireturn, 1) := by decide +kernel
theorem dX4_within_0 : decode cX4_within 0 = .ok (.iload_n 0, 1) := by decide +kernel
theorem dX4_within_1 : decode cX4_within 1 = .ok (.iload_n 1, 1) := by decide +kernel
theorem dX4_within_2 : decode cX4_within 2 = .ok (.if_icmp .lt 12, 3) := by decide +kernel
theorem dX4_within_5 : decode cX4_within 5 = .ok (.iload_n 0, 1) := by decide +kernel
theorem dX4_within_6 : decode cX4_within 6 = .ok (.iload_n 2, 1) := by decide +kernel
theorem dX4_within_7 : decode cX4_within 7 = .ok (.if_icmp .gt 7, 3) := by decide +kernel
theorem dX4_within_10 : decode cX4_within 10 = .ok (.iconst 1, 1) := by decide +kernel
theorem dX4_within_11 : decode cX4_within 11 = .ok (.goto 4, 3) := by decide +kernel
theorem dX4_within_14 : decode cX4_within 14 = .ok (.iconst 0, 1) := by decide +kernel
theorem dX4_within_15 : decode cX4_within 15 = .ok (.ireturn, 1) := by decide +kernel
theorem dX4_isSheet_0 : decode cX4_isSheet 0 = .ok (.iload_n 0, 1) := by decide +kernel
theorem dX4_isSheet_1 : decode cX4_isSheet 1 = .ok (.iconst 0, 1) := by decide +kernel
theorem dX4_isSheet_2 : decode cX4_isSheet 2 = .ok (.iconst 3, 1) := by decide +kernel
theorem dX4_isSheet_3 : decode cX4_isSheet 3 = .ok (.invokestatic 107, 3) := by decide +kernel
theorem dX4_isSheet_6 : decode cX4_isSheet 6 = .ok (.ireturn, 1) := by decide +kernel
theorem dX4_isLane_0 : decode cX4_isLane 0 = .ok (.iload_n 0, 1) := by decide +kernel
theorem dX4_isLane_1 : decode cX4_isLane 1 = .ok (.iconst 0, 1) := by decide +kernel
theorem dX4_isLane_2 : decode cX4_isLane 2 = .ok (.iconst 2, 1) := by decide +kernel
theorem dX4_isLane_3 : decode cX4_isLane 3 = .ok (.invokestatic 107, 3) := by decide +kernel
theorem dX4_isLane_6 : decode cX4_isLane 6 = .ok (.ireturn, 1) := by decide +kernel
theorem dX4_faulted_0 : decode cX4_faulted 0 = .ok (.aload_n 0, 1) := by decide +kernel
theorem dX4_faulted_1 : decode cX4_faulted 1 = .ok (.iload_n 1, 1) := by decide +kernel
theorem dX4_faulted_2 : decode cX4_faulted 2 = .ok (.putfield 46, 3) := by decide +kernel
theorem dX4_faulted_5 : decode cX4_faulted 5 = .ok (.bipush (-10), 2) := by decide +kernel
theorem dX4_faulted_7 : decode cX4_faulted 7 = .ok (.iload_n 1, 1) := by decide +kernel
theorem dX4_faulted_8 : decode cX4_faulted 8 = .ok (.isub, 1) := by decide +kernel
theorem dX4_faulted_9 : decode cX4_faulted 9 = .ok (.ireturn, 1) := by decide +kernel
theorem dX4_leave_0 : decode cX4_leave 0 = .ok (.aload_n 0, 1) := by decide +kernel
theorem dX4_leave_1 : decode cX4_leave 1 = .ok (.bipush 31, 2) := by decide +kernel
theorem dX4_leave_3 : decode cX4_leave 3 = .ok (.aload_n 0, 1) := by decide +kernel
theorem dX4_leave_4 : decode cX4_leave 4 = .ok (.getfield 43, 3) := by decide +kernel
theorem dX4_leave_7 : decode cX4_leave 7 = .ok (.imul, 1) := by decide +kernel
theorem dX4_leave_8 : decode cX4_leave 8 = .ok (.iload_n 1, 1) := by decide +kernel
theorem dX4_leave_9 : decode cX4_leave 9 = .ok (.iadd, 1) := by decide +kernel
theorem dX4_leave_10 : decode cX4_leave 10 = .ok (.putfield 43, 3) := by decide +kernel
theorem dX4_leave_13 : decode cX4_leave 13 = .ok (.return_, 1) := by decide +kernel
theorem dX4_tellingOfMud_0 : decode cX4_tellingOfMud 0 = .ok (.aload_n 0, 1) := by decide +kernel
theorem dX4_tellingOfMud_1 : decode cX4_tellingOfMud 1 = .ok (.iconst 1, 1) := by decide +kernel
theorem dX4_tellingOfMud_2 : decode cX4_tellingOfMud 2 = .ok (.invokevirtual 220, 3) := by decide +kernel
theorem dX4_tellingOfMud_5 : decode cX4_tellingOfMud 5 = .ok (.aload_n 0, 1) := by decide +kernel
theorem dX4_tellingOfMud_6 : decode cX4_tellingOfMud 6 = .ok (.getfield 12, 3) := by decide +kernel
theorem dX4_tellingOfMud_9 : decode cX4_tellingOfMud 9 = .ok (.getfield 88, 3) := by decide +kernel
theorem dX4_tellingOfMud_12 : decode cX4_tellingOfMud 12 = .ok (.iload_n 1, 1) := by decide +kernel
theorem dX4_tellingOfMud_13 : decode cX4_tellingOfMud 13 = .ok (.iaload, 1) := by decide +kernel
theorem dX4_tellingOfMud_14 : decode cX4_tellingOfMud 14 = .ok (.ireturn, 1) := by decide +kernel
theorem dX4_tellingOfSand_0 : decode cX4_tellingOfSand 0 = .ok (.aload_n 0, 1) := by decide +kernel
theorem dX4_tellingOfSand_1 : decode cX4_tellingOfSand 1 = .ok (.iconst 2, 1) := by decide +kernel
theorem dX4_tellingOfSand_2 : decode cX4_tellingOfSand 2 = .ok (.invokevirtual 220, 3) := by decide +kernel
theorem dX4_tellingOfSand_5 : decode cX4_tellingOfSand 5 = .ok (.aload_n 0, 1) := by decide +kernel
theorem dX4_tellingOfSand_6 : decode cX4_tellingOfSand 6 = .ok (.iload_n 1, 1) := by decide +kernel
theorem dX4_tellingOfSand_7 : decode cX4_tellingOfSand 7 = .ok (.invokevirtual 217, 3) := by decide +kernel
theorem dX4_tellingOfSand_10 : decode cX4_tellingOfSand 10 = .ok (.bipush 100, 2) := by decide +kernel
theorem dX4_tellingOfSand_12 : decode cX4_tellingOfSand 12 = .ok (.iadd, 1) := by decide +kernel
theorem dX4_tellingOfSand_13 : decode cX4_tellingOfSand 13 = .ok (.ireturn, 1) := by decide +kernel
theorem dX4_tellingOfClay_0 : decode cX4_tellingOfClay 0 = .ok (.aload_n 0, 1) := by decide +kernel
theorem dX4_tellingOfClay_1 : decode cX4_tellingOfClay 1 = .ok (.iconst 3, 1) := by decide +kernel
theorem dX4_tellingOfClay_2 : decode cX4_tellingOfClay 2 = .ok (.invokevirtual 220, 3) := by decide +kernel
theorem dX4_tellingOfClay_5 : decode cX4_tellingOfClay 5 = .ok (.aload_n 0, 1) := by decide +kernel
theorem dX4_tellingOfClay_6 : decode cX4_tellingOfClay 6 = .ok (.iload_n 1, 1) := by decide +kernel
theorem dX4_tellingOfClay_7 : decode cX4_tellingOfClay 7 = .ok (.invokevirtual 211, 3) := by decide +kernel
theorem dX4_tellingOfClay_10 : decode cX4_tellingOfClay 10 = .ok (.istore_n 2, 1) := by decide +kernel
theorem dX4_tellingOfClay_11 : decode cX4_tellingOfClay 11 = .ok (.iload_n 2, 1) := by decide +kernel
theorem dX4_tellingOfClay_12 : decode cX4_tellingOfClay 12 = .ok (.aload_n 0, 1) := by decide +kernel
theorem dX4_tellingOfClay_13 : decode cX4_tellingOfClay 13 = .ok (.iload_n 1, 1) := by decide +kernel
theorem dX4_tellingOfClay_14 : decode cX4_tellingOfClay 14 = .ok (.invokevirtual 217, 3) := by decide +kernel
theorem dX4_tellingOfClay_17 : decode cX4_tellingOfClay 17 = .ok (.iadd, 1) := by decide +kernel
theorem dX4_tellingOfClay_18 : decode cX4_tellingOfClay 18 = .ok (.ireturn, 1) := by decide +kernel
theorem dX4_refusalOfPairs_0 : decode cX4_refusalOfPairs 0 = .ok (.iconst 0, 1) := by decide +kernel
theorem dX4_refusalOfPairs_1 : decode cX4_refusalOfPairs 1 = .ok (.istore 4, 2) := by decide +kernel
theorem dX4_refusalOfPairs_3 : decode cX4_refusalOfPairs 3 = .ok (.iload 4, 2) := by decide +kernel
theorem dX4_refusalOfPairs_5 : decode cX4_refusalOfPairs 5 = .ok (.iload_n 3, 1) := by decide +kernel
theorem dX4_refusalOfPairs_6 : decode cX4_refusalOfPairs 6 = .ok (.if_icmp .ge 107, 3) := by decide +kernel
theorem dX4_refusalOfPairs_9 : decode cX4_refusalOfPairs 9 = .ok (.aload_n 1, 1) := by decide +kernel
theorem dX4_refusalOfPairs_10 : decode cX4_refusalOfPairs 10 = .ok (.iload_n 2, 1) := by decide +kernel
theorem dX4_refusalOfPairs_11 : decode cX4_refusalOfPairs 11 = .ok (.iconst 2, 1) := by decide +kernel
theorem dX4_refusalOfPairs_12 : decode cX4_refusalOfPairs 12 = .ok (.iload 4, 2) := by decide +kernel
theorem dX4_refusalOfPairs_14 : decode cX4_refusalOfPairs 14 = .ok (.imul, 1) := by decide +kernel
theorem dX4_refusalOfPairs_15 : decode cX4_refusalOfPairs 15 = .ok (.iadd, 1) := by decide +kernel
theorem dX4_refusalOfPairs_16 : decode cX4_refusalOfPairs 16 = .ok (.invokevirtual 196, 3) := by decide +kernel
theorem dX4_refusalOfPairs_19 : decode cX4_refusalOfPairs 19 = .ok (.istore 5, 2) := by decide +kernel
theorem dX4_refusalOfPairs_21 : decode cX4_refusalOfPairs 21 = .ok (.aload_n 1, 1) := by decide +kernel
theorem dX4_refusalOfPairs_22 : decode cX4_refusalOfPairs 22 = .ok (.iload_n 2, 1) := by decide +kernel
theorem dX4_refusalOfPairs_23 : decode cX4_refusalOfPairs 23 = .ok (.iconst 2, 1) := by decide +kernel
theorem dX4_refusalOfPairs_24 : decode cX4_refusalOfPairs 24 = .ok (.iload 4, 2) := by decide +kernel
theorem dX4_refusalOfPairs_26 : decode cX4_refusalOfPairs 26 = .ok (.imul, 1) := by decide +kernel
theorem dX4_refusalOfPairs_27 : decode cX4_refusalOfPairs 27 = .ok (.iadd, 1) := by decide +kernel
theorem dX4_refusalOfPairs_28 : decode cX4_refusalOfPairs 28 = .ok (.iconst 1, 1) := by decide +kernel
theorem dX4_refusalOfPairs_29 : decode cX4_refusalOfPairs 29 = .ok (.iadd, 1) := by decide +kernel
theorem dX4_refusalOfPairs_30 : decode cX4_refusalOfPairs 30 = .ok (.invokevirtual 196, 3) := by decide +kernel
theorem dX4_refusalOfPairs_33 : decode cX4_refusalOfPairs 33 = .ok (.istore 6, 2) := by decide +kernel
theorem dX4_refusalOfPairs_35 : decode cX4_refusalOfPairs 35 = .ok (.iload 5, 2) := by decide +kernel
theorem dX4_refusalOfPairs_37 : decode cX4_refusalOfPairs 37 = .ok (.iconst 0, 1) := by decide +kernel
theorem dX4_refusalOfPairs_38 : decode cX4_refusalOfPairs 38 = .ok (.iconst 2, 1) := by decide +kernel
theorem dX4_refusalOfPairs_39 : decode cX4_refusalOfPairs 39 = .ok (.invokestatic 107, 3) := by decide +kernel
theorem dX4_refusalOfPairs_42 : decode cX4_refusalOfPairs 42 = .ok (.ifCond .ne 6, 3) := by decide +kernel
theorem dX4_refusalOfPairs_45 : decode cX4_refusalOfPairs 45 = .ok (.bipush (-2), 2) := by decide +kernel
theorem dX4_refusalOfPairs_47 : decode cX4_refusalOfPairs 47 = .ok (.ireturn, 1) := by decide +kernel
theorem dX4_refusalOfPairs_48 : decode cX4_refusalOfPairs 48 = .ok (.iload 5, 2) := by decide +kernel
theorem dX4_refusalOfPairs_50 : decode cX4_refusalOfPairs 50 = .ok (.ifCond .ne 17, 3) := by decide +kernel
theorem dX4_refusalOfPairs_53 : decode cX4_refusalOfPairs 53 = .ok (.iload 6, 2) := by decide +kernel
theorem dX4_refusalOfPairs_55 : decode cX4_refusalOfPairs 55 = .ok (.iconst 0, 1) := by decide +kernel
theorem dX4_refusalOfPairs_56 : decode cX4_refusalOfPairs 56 = .ok (.bipush 9, 2) := by decide +kernel
theorem dX4_refusalOfPairs_58 : decode cX4_refusalOfPairs 58 = .ok (.invokestatic 107, 3) := by decide +kernel
theorem dX4_refusalOfPairs_61 : decode cX4_refusalOfPairs 61 = .ok (.ifCond .ne 6, 3) := by decide +kernel
theorem dX4_refusalOfPairs_64 : decode cX4_refusalOfPairs 64 = .ok (.bipush (-2), 2) := by decide +kernel
theorem dX4_refusalOfPairs_66 : decode cX4_refusalOfPairs 66 = .ok (.ireturn, 1) := by decide +kernel
theorem dX4_refusalOfPairs_67 : decode cX4_refusalOfPairs 67 = .ok (.iload 5, 2) := by decide +kernel
theorem dX4_refusalOfPairs_69 : decode cX4_refusalOfPairs 69 = .ok (.iconst 2, 1) := by decide +kernel
theorem dX4_refusalOfPairs_70 : decode cX4_refusalOfPairs 70 = .ok (.if_icmp .ne 17, 3) := by decide +kernel
theorem dX4_refusalOfPairs_73 : decode cX4_refusalOfPairs 73 = .ok (.iload 6, 2) := by decide +kernel
theorem dX4_refusalOfPairs_75 : decode cX4_refusalOfPairs 75 = .ok (.iconst 0, 1) := by decide +kernel
theorem dX4_refusalOfPairs_76 : decode cX4_refusalOfPairs 76 = .ok (.bipush 9, 2) := by decide +kernel
theorem dX4_refusalOfPairs_78 : decode cX4_refusalOfPairs 78 = .ok (.invokestatic 107, 3) := by decide +kernel
theorem dX4_refusalOfPairs_81 : decode cX4_refusalOfPairs 81 = .ok (.ifCond .ne 6, 3) := by decide +kernel
theorem dX4_refusalOfPairs_84 : decode cX4_refusalOfPairs 84 = .ok (.bipush (-2), 2) := by decide +kernel
theorem dX4_refusalOfPairs_86 : decode cX4_refusalOfPairs 86 = .ok (.ireturn, 1) := by decide +kernel
theorem dX4_refusalOfPairs_87 : decode cX4_refusalOfPairs 87 = .ok (.iload 5, 2) := by decide +kernel
theorem dX4_refusalOfPairs_89 : decode cX4_refusalOfPairs 89 = .ok (.iconst 1, 1) := by decide +kernel
theorem dX4_refusalOfPairs_90 : decode cX4_refusalOfPairs 90 = .ok (.if_icmp .ne 17, 3) := by decide +kernel
theorem dX4_refusalOfPairs_93 : decode cX4_refusalOfPairs 93 = .ok (.aload_n 0, 1) := by decide +kernel
theorem dX4_refusalOfPairs_94 : decode cX4_refusalOfPairs 94 = .ok (.getfield 12, 3) := by decide +kernel
theorem dX4_refusalOfPairs_97 : decode cX4_refusalOfPairs 97 = .ok (.iload 6, 2) := by decide +kernel
theorem dX4_refusalOfPairs_99 : decode cX4_refusalOfPairs 99 = .ok (.invokevirtual 81, 3) := by decide +kernel
theorem dX4_refusalOfPairs_102 : decode cX4_refusalOfPairs 102 = .ok (.ifCond .ne 5, 3) := by decide +kernel
theorem dX4_refusalOfPairs_105 : decode cX4_refusalOfPairs 105 = .ok (.iconst (-1), 1) := by decide +kernel
theorem dX4_refusalOfPairs_106 : decode cX4_refusalOfPairs 106 = .ok (.ireturn, 1) := by decide +kernel
theorem dX4_refusalOfPairs_107 : decode cX4_refusalOfPairs 107 = .ok (.iinc 4 1, 3) := by decide +kernel
theorem dX4_refusalOfPairs_110 : decode cX4_refusalOfPairs 110 = .ok (.goto (-107), 3) := by decide +kernel
theorem dX4_refusalOfPairs_113 : decode cX4_refusalOfPairs 113 = .ok (.iconst 0, 1) := by decide +kernel
theorem dX4_refusalOfPairs_114 : decode cX4_refusalOfPairs 114 = .ok (.ireturn, 1) := by decide +kernel
theorem dX4_firstFault_0 : decode cX4_firstFault 0 = .ok (.iconst 0, 1) := by decide +kernel
theorem dX4_firstFault_1 : decode cX4_firstFault 1 = .ok (.istore_n 3, 1) := by decide +kernel
theorem dX4_firstFault_2 : decode cX4_firstFault 2 = .ok (.iload_n 3, 1) := by decide +kernel
theorem dX4_firstFault_3 : decode cX4_firstFault 3 = .ok (.iload_n 2, 1) := by decide +kernel
theorem dX4_firstFault_4 : decode cX4_firstFault 4 = .ok (.if_icmp .ge 20, 3) := by decide +kernel
theorem dX4_firstFault_7 : decode cX4_firstFault 7 = .ok (.aload_n 0, 1) := by decide +kernel
theorem dX4_firstFault_8 : decode cX4_firstFault 8 = .ok (.iload_n 1, 1) := by decide +kernel
theorem dX4_firstFault_9 : decode cX4_firstFault 9 = .ok (.iload_n 3, 1) := by decide +kernel
theorem dX4_firstFault_10 : decode cX4_firstFault 10 = .ok (.invokestatic 229, 3) := by decide +kernel
theorem dX4_firstFault_13 : decode cX4_firstFault 13 = .ok (.ifCond .ne 5, 3) := by decide +kernel
theorem dX4_firstFault_16 : decode cX4_firstFault 16 = .ok (.iload_n 3, 1) := by decide +kernel
theorem dX4_firstFault_17 : decode cX4_firstFault 17 = .ok (.ireturn, 1) := by decide +kernel
theorem dX4_firstFault_18 : decode cX4_firstFault 18 = .ok (.iinc 3 1, 3) := by decide +kernel
theorem dX4_firstFault_21 : decode cX4_firstFault 21 = .ok (.goto (-19), 3) := by decide +kernel
theorem dX4_firstFault_24 : decode cX4_firstFault 24 = .ok (.iload_n 2, 1) := by decide +kernel
theorem dX4_firstFault_25 : decode cX4_firstFault 25 = .ok (.iconst 4, 1) := by decide +kernel
theorem dX4_firstFault_26 : decode cX4_firstFault 26 = .ok (.if_icmp .lt 17, 3) := by decide +kernel
theorem dX4_firstFault_29 : decode cX4_firstFault 29 = .ok (.iload_n 2, 1) := by decide +kernel
theorem dX4_firstFault_30 : decode cX4_firstFault 30 = .ok (.aload_n 0, 1) := by decide +kernel
theorem dX4_firstFault_31 : decode cX4_firstFault 31 = .ok (.iload_n 1, 1) := by decide +kernel
theorem dX4_firstFault_32 : decode cX4_firstFault 32 = .ok (.invokestatic 233, 3) := by decide +kernel
theorem dX4_firstFault_35 : decode cX4_firstFault 35 = .ok (.if_icmp .ne 8, 3) := by decide +kernel
theorem dX4_firstFault_38 : decode cX4_firstFault 38 = .ok (.bipush (-9), 2) := by decide +kernel
theorem dX4_firstFault_40 : decode cX4_firstFault 40 = .ok (.goto 4, 3) := by decide +kernel
theorem dX4_firstFault_43 : decode cX4_firstFault 43 = .ok (.iload_n 2, 1) := by decide +kernel
theorem dX4_firstFault_44 : decode cX4_firstFault 44 = .ok (.ireturn, 1) := by decide +kernel
theorem dX4_goesOn_0 : decode cX4_goesOn 0 = .ok (.aload_n 0, 1) := by decide +kernel
theorem dX4_goesOn_1 : decode cX4_goesOn 1 = .ok (.iload_n 1, 1) := by decide +kernel
theorem dX4_goesOn_2 : decode cX4_goesOn 2 = .ok (.iload_n 2, 1) := by decide +kernel
theorem dX4_goesOn_3 : decode cX4_goesOn 3 = .ok (.iadd, 1) := by decide +kernel
theorem dX4_goesOn_4 : decode cX4_goesOn 4 = .ok (.invokevirtual 196, 3) := by decide +kernel
theorem dX4_goesOn_7 : decode cX4_goesOn 7 = .ok (.istore_n 3, 1) := by decide +kernel
theorem dX4_goesOn_8 : decode cX4_goesOn 8 = .ok (.iload_n 2, 1) := by decide +kernel
theorem dX4_goesOn_9 : decode cX4_goesOn 9 = .ok (.tableswitch 70 0 3 #[31, 43, 52, 61], 31) := by decide +kernel
theorem dX4_goesOn_40 : decode cX4_goesOn 40 = .ok (.iload_n 3, 1) := by decide +kernel
theorem dX4_goesOn_41 : decode cX4_goesOn 41 = .ok (.bipush 98, 2) := by decide +kernel
theorem dX4_goesOn_43 : decode cX4_goesOn 43 = .ok (.if_icmp .ne 7, 3) := by decide +kernel
theorem dX4_goesOn_46 : decode cX4_goesOn 46 = .ok (.iconst 1, 1) := by decide +kernel
theorem dX4_goesOn_47 : decode cX4_goesOn 47 = .ok (.goto 4, 3) := by decide +kernel
theorem dX4_goesOn_50 : decode cX4_goesOn 50 = .ok (.iconst 0, 1) := by decide +kernel
theorem dX4_goesOn_51 : decode cX4_goesOn 51 = .ok (.ireturn, 1) := by decide +kernel
theorem dX4_goesOn_52 : decode cX4_goesOn 52 = .ok (.iload_n 3, 1) := by decide +kernel
theorem dX4_goesOn_53 : decode cX4_goesOn 53 = .ok (.bipush 48, 2) := by decide +kernel
theorem dX4_goesOn_55 : decode cX4_goesOn 55 = .ok (.bipush 57, 2) := by decide +kernel
theorem dX4_goesOn_57 : decode cX4_goesOn 57 = .ok (.invokestatic 107, 3) := by decide +kernel
theorem dX4_goesOn_60 : decode cX4_goesOn 60 = .ok (.ireturn, 1) := by decide +kernel
theorem dX4_goesOn_61 : decode cX4_goesOn 61 = .ok (.iload_n 3, 1) := by decide +kernel
theorem dX4_goesOn_62 : decode cX4_goesOn 62 = .ok (.bipush 50, 2) := by decide +kernel
theorem dX4_goesOn_64 : decode cX4_goesOn 64 = .ok (.bipush 52, 2) := by decide +kernel
theorem dX4_goesOn_66 : decode cX4_goesOn 66 = .ok (.invokestatic 107, 3) := by decide +kernel
theorem dX4_goesOn_69 : decode cX4_goesOn 69 = .ok (.ireturn, 1) := by decide +kernel
theorem dX4_goesOn_70 : decode cX4_goesOn 70 = .ok (.iload_n 3, 1) := by decide +kernel
theorem dX4_goesOn_71 : decode cX4_goesOn 71 = .ok (.bipush 50, 2) := by decide +kernel
theorem dX4_goesOn_73 : decode cX4_goesOn 73 = .ok (.bipush 51, 2) := by decide +kernel
theorem dX4_goesOn_75 : decode cX4_goesOn 75 = .ok (.invokestatic 107, 3) := by decide +kernel
theorem dX4_goesOn_78 : decode cX4_goesOn 78 = .ok (.ireturn, 1) := by decide +kernel
theorem dX4_goesOn_79 : decode cX4_goesOn 79 = .ok (.iload_n 2, 1) := by decide +kernel
theorem dX4_goesOn_80 : decode cX4_goesOn 80 = .ok (.aload_n 0, 1) := by decide +kernel
theorem dX4_goesOn_81 : decode cX4_goesOn 81 = .ok (.iload_n 1, 1) := by decide +kernel
theorem dX4_goesOn_82 : decode cX4_goesOn 82 = .ok (.invokestatic 233, 3) := by decide +kernel
theorem dX4_goesOn_85 : decode cX4_goesOn 85 = .ok (.if_icmp .lt 5, 3) := by decide +kernel
theorem dX4_goesOn_88 : decode cX4_goesOn 88 = .ok (.iconst 0, 1) := by decide +kernel
theorem dX4_goesOn_89 : decode cX4_goesOn 89 = .ok (.ireturn, 1) := by decide +kernel
theorem dX4_goesOn_90 : decode cX4_goesOn 90 = .ok (.iload_n 2, 1) := by decide +kernel
theorem dX4_goesOn_91 : decode cX4_goesOn 91 = .ok (.iconst 1, 1) := by decide +kernel
theorem dX4_goesOn_92 : decode cX4_goesOn 92 = .ok (.iand, 1) := by decide +kernel
theorem dX4_goesOn_93 : decode cX4_goesOn 93 = .ok (.ifCond .ne 20, 3) := by decide +kernel
theorem dX4_goesOn_96 : decode cX4_goesOn 96 = .ok (.iload_n 3, 1) := by decide +kernel
theorem dX4_goesOn_97 : decode cX4_goesOn 97 = .ok (.invokestatic 237, 3) := by decide +kernel
theorem dX4_goesOn_100 : decode cX4_goesOn 100 = .ok (.bipush (-9), 2) := by decide +kernel
theorem dX4_goesOn_102 : decode cX4_goesOn 102 = .ok (.if_icmp .eq 7, 3) := by decide +kernel
theorem dX4_goesOn_105 : decode cX4_goesOn 105 = .ok (.iconst 1, 1) := by decide +kernel
theorem dX4_goesOn_106 : decode cX4_goesOn 106 = .ok (.goto 15, 3) := by decide +kernel
theorem dX4_goesOn_109 : decode cX4_goesOn 109 = .ok (.iconst 0, 1) := by decide +kernel
theorem dX4_goesOn_110 : decode cX4_goesOn 110 = .ok (.goto 11, 3) := by decide +kernel
theorem dX4_goesOn_113 : decode cX4_goesOn 113 = .ok (.iload_n 3, 1) := by decide +kernel
theorem dX4_goesOn_114 : decode cX4_goesOn 114 = .ok (.bipush 48, 2) := by decide +kernel
theorem dX4_goesOn_116 : decode cX4_goesOn 116 = .ok (.bipush 57, 2) := by decide +kernel
theorem dX4_goesOn_118 : decode cX4_goesOn 118 = .ok (.invokestatic 107, 3) := by decide +kernel
theorem dX4_goesOn_121 : decode cX4_goesOn 121 = .ok (.ireturn, 1) := by decide +kernel
theorem dX4_lengthOfText_0 : decode cX4_lengthOfText 0 = .ok (.iconst 4, 1) := by decide +kernel
theorem dX4_lengthOfText_1 : decode cX4_lengthOfText 1 = .ok (.iconst 2, 1) := by decide +kernel
theorem dX4_lengthOfText_2 : decode cX4_lengthOfText 2 = .ok (.aload_n 0, 1) := by decide +kernel
theorem dX4_lengthOfText_3 : decode cX4_lengthOfText 3 = .ok (.iload_n 1, 1) := by decide +kernel
theorem dX4_lengthOfText_4 : decode cX4_lengthOfText 4 = .ok (.iconst 2, 1) := by decide +kernel
theorem dX4_lengthOfText_5 : decode cX4_lengthOfText 5 = .ok (.iadd, 1) := by decide +kernel
theorem dX4_lengthOfText_6 : decode cX4_lengthOfText 6 = .ok (.invokestatic 240, 3) := by decide +kernel
theorem dX4_lengthOfText_9 : decode cX4_lengthOfText 9 = .ok (.imul, 1) := by decide +kernel
theorem dX4_lengthOfText_10 : decode cX4_lengthOfText 10 = .ok (.aload_n 0, 1) := by decide +kernel
theorem dX4_lengthOfText_11 : decode cX4_lengthOfText 11 = .ok (.iload_n 1, 1) := by decide +kernel
theorem dX4_lengthOfText_12 : decode cX4_lengthOfText 12 = .ok (.iconst 3, 1) := by decide +kernel
theorem dX4_lengthOfText_13 : decode cX4_lengthOfText 13 = .ok (.iadd, 1) := by decide +kernel
theorem dX4_lengthOfText_14 : decode cX4_lengthOfText 14 = .ok (.invokestatic 240, 3) := by decide +kernel
theorem dX4_lengthOfText_17 : decode cX4_lengthOfText 17 = .ok (.imul, 1) := by decide +kernel
theorem dX4_lengthOfText_18 : decode cX4_lengthOfText 18 = .ok (.iadd, 1) := by decide +kernel
theorem dX4_lengthOfText_19 : decode cX4_lengthOfText 19 = .ok (.ireturn, 1) := by decide +kernel
theorem dX4_digitAt_0 : decode cX4_digitAt 0 = .ok (.aload_n 0, 1) := by decide +kernel
theorem dX4_digitAt_1 : decode cX4_digitAt 1 = .ok (.iload_n 1, 1) := by decide +kernel
theorem dX4_digitAt_2 : decode cX4_digitAt 2 = .ok (.invokevirtual 196, 3) := by decide +kernel
theorem dX4_digitAt_5 : decode cX4_digitAt 5 = .ok (.bipush 48, 2) := by decide +kernel
theorem dX4_digitAt_7 : decode cX4_digitAt 7 = .ok (.isub, 1) := by decide +kernel
theorem dX4_digitAt_8 : decode cX4_digitAt 8 = .ok (.ireturn, 1) := by decide +kernel
theorem dX4_kindByLetter_0 : decode cX4_kindByLetter 0 = .ok (.iload_n 0, 1) := by decide +kernel
theorem dX4_kindByLetter_1 : decode cX4_kindByLetter 1 = .ok (.lookupswitch 41 #[(99, 39), (109, 35), (115, 37)], 35) := by decide +kernel
theorem dX4_kindByLetter_36 : decode cX4_kindByLetter 36 = .ok (.iconst 0, 1) := by decide +kernel
theorem dX4_kindByLetter_37 : decode cX4_kindByLetter 37 = .ok (.ireturn, 1) := by decide +kernel
theorem dX4_kindByLetter_38 : decode cX4_kindByLetter 38 = .ok (.iconst 1, 1) := by decide +kernel
theorem dX4_kindByLetter_39 : decode cX4_kindByLetter 39 = .ok (.ireturn, 1) := by decide +kernel
theorem dX4_kindByLetter_40 : decode cX4_kindByLetter 40 = .ok (.iconst 2, 1) := by decide +kernel
theorem dX4_kindByLetter_41 : decode cX4_kindByLetter 41 = .ok (.ireturn, 1) := by decide +kernel
theorem dX4_kindByLetter_42 : decode cX4_kindByLetter 42 = .ok (.bipush (-9), 2) := by decide +kernel
theorem dX4_kindByLetter_44 : decode cX4_kindByLetter 44 = .ok (.ireturn, 1) := by decide +kernel
end
section
theorem dX5_init_0 : decode cX5_init 0 = .ok (.aload_n 0, 1) := by decide +kernel
theorem dX5_init_1 : decode cX5_init 1 = .ok (.invokespecial 1, 3) := by decide +kernel
theorem dX5_init_4 : decode cX5_init 4 = .ok (.aload_n 0, 1) := by decide +kernel
theorem dX5_init_5 : decode cX5_init 5 = .ok (.iconst 4, 1) := by decide +kernel
theorem dX5_init_6 : decode cX5_init 6 = .ok (.newarray .int, 2) := by decide +kernel
theorem dX5_init_8 : decode cX5_init 8 = .ok (.dup, 1) := by decide +kernel
theorem dX5_init_9 : decode cX5_init 9 = .ok (.iconst 0, 1) := by decide +kernel
theorem dX5_init_10 : decode cX5_init 10 = .ok (.bipush (-9), 2) := by decide +kernel
theorem dX5_init_12 : decode cX5_init 12 = .ok (.iastore, 1) := by decide +kernel
theorem dX5_init_13 : decode cX5_init 13 = .ok (.dup, 1) := by decide +kernel
theorem dX5_init_14 : decode cX5_init 14 = .ok (.iconst 1, 1) := by decide +kernel
theorem dX5_init_15 : decode cX5_init 15 = .ok (.bipush (-9), 2) := by decide +kernel
theorem dX5_init_17 : decode cX5_init 17 = .ok (.iastore, 1) := by decide +kernel
theorem dX5_init_18 : decode cX5_init 18 = .ok (.dup, 1) := by decide +kernel
theorem dX5_init_19 : decode cX5_init 19 = .ok (.iconst 2, 1) := by decide +kernel
theorem dX5_init_20 : decode cX5_init 20 = .ok (.bipush (-9), 2) := by decide +kernel
theorem dX5_init_22 : decode cX5_init 22 = .ok (.iastore, 1) := by decide +kernel
theorem dX5_init_23 : decode cX5_init 23 = .ok (.dup, 1) := by decide +kernel
theorem dX5_init_24 : decode cX5_init 24 = .ok (.iconst 3, 1) := by decide +kernel
theorem dX5_init_25 : decode cX5_init 25 = .ok (.bipush (-9), 2) := by decide +kernel
theorem dX5_init_27 : decode cX5_init 27 = .ok (.iastore, 1) := by decide +kernel
theorem dX5_init_28 : decode cX5_init 28 = .ok (.putfield 9, 3) := by decide +kernel
theorem dX5_init_31 : decode cX5_init 31 = .ok (.aload_n 0, 1) := by decide +kernel
theorem dX5_init_32 : decode cX5_init 32 = .ok (.iconst 4, 1) := by decide +kernel
theorem dX5_init_33 : decode cX5_init 33 = .ok (.newarray .int, 2) := by decide +kernel
theorem dX5_init_35 : decode cX5_init 35 = .ok (.putfield 13, 3) := by decide +kernel
theorem dX5_init_38 : decode cX5_init 38 = .ok (.aload_n 0, 1) := by decide +kernel
theorem dX5_init_39 : decode cX5_init 39 = .ok (.sipush 240, 3) := by decide +kernel
theorem dX5_init_42 : decode cX5_init 42 = .ok (.newarray .int, 2) := by decide +kernel
theorem dX5_init_44 : decode cX5_init 44 = .ok (.putfield 16, 3) := by decide +kernel
theorem dX5_init_47 : decode cX5_init 47 = .ok (.aload_n 0, 1) := by decide +kernel
theorem dX5_init_48 : decode cX5_init 48 = .ok (.bipush 12, 2) := by decide +kernel
theorem dX5_init_50 : decode cX5_init 50 = .ok (.newarray .int, 2) := by decide +kernel
theorem dX5_init_52 : decode cX5_init 52 = .ok (.putfield 19, 3) := by decide +kernel
theorem dX5_init_55 : decode cX5_init 55 = .ok (.aload_n 0, 1) := by decide +kernel
theorem dX5_init_56 : decode cX5_init 56 = .ok (.bipush 12, 2) := by decide +kernel
theorem dX5_init_58 : decode cX5_init 58 = .ok (.newarray .int, 2) := by decide +kernel
theorem dX5_init_60 : decode cX5_init 60 = .ok (.putfield 22, 3) := by decide +kernel
theorem dX5_init_63 : decode cX5_init 63 = .ok (.aload_n 0, 1) := by decide +kernel
theorem dX5_init_64 : decode cX5_init 64 = .ok (.bipush 12, 2) := by decide +kernel
theorem dX5_init_66 : decode cX5_init 66 = .ok (.newarray .int, 2) := by decide +kernel
theorem dX5_init_68 : decode cX5_init 68 = .ok (.putfield 25, 3) := by decide +kernel
theorem dX5_init_71 : decode cX5_init 71 = .ok (.aload_n 0, 1) := by decide +kernel
theorem dX5_init_72 : decode cX5_init 72 = .ok (.bipush 12, 2) := by decide +kernel
theorem dX5_init_74 : decode cX5_init 74 = .ok (.newarray .int, 2) := by decide +kernel
theorem dX5_init_76 : decode cX5_init 76 = .ok (.putfield 28, 3) := by decide +kernel
theorem dX5_init_79 : decode cX5_init 79 = .ok (.aload_n 0, 1) := by decide +kernel
theorem dX5_init_80 : decode cX5_init 80 = .ok (.bipush 12, 2) := by decide +kernel
theorem dX5_init_82 : decode cX5_init 82 = .ok (.newarray .int, 2) := by decide +kernel
theorem dX5_init_84 : decode cX5_init 84 = .ok (.putfield 31, 3) := by decide +kernel
theorem dX5_init_87 : decode cX5_init 87 = .ok (.aload_n 0, 1) := by decide +kernel
theorem dX5_init_88 : decode cX5_init 88 = .ok (.bipush 8, 2) := by decide +kernel
theorem dX5_init_90 : decode cX5_init 90 = .ok (.newarray .int, 2) := by decide +kernel
theorem dX5_init_92 : decode cX5_init 92 = .ok (.putfield 34, 3) := by decide +kernel
theorem dX5_init_95 : decode cX5_init 95 = .ok (.aload_n 0, 1) := by decide +kernel
theorem dX5_init_96 : decode cX5_init 96 = .ok (.bipush 8, 2) := by decide +kernel
theorem dX5_init_98 : decode cX5_init 98 = .ok (.newarray .int, 2) := by decide +kernel
theorem dX5_init_100 : decode cX5_init 100 = .ok (.putfield 37, 3) := by decide +kernel
theorem dX5_init_103 : decode cX5_init 103 = .ok (.aload_n 0, 1) := by decide +kernel
theorem dX5_init_104 : decode cX5_init 104 = .ok (.bipush 8, 2) := by decide +kernel
theorem dX5_init_106 : decode cX5_init 106 = .ok (.newarray .int, 2) := by decide +kernel
theorem dX5_init_108 : decode cX5_init 108 = .ok (.putfield 40, 3) := by decide +kernel
theorem dX5_init_111 : decode cX5_init 111 = .ok (.return_, 1) := by decide +kernel
theorem dX5_fails_0 : decode cX5_fails 0 = .ok (.aload_n 0, 1) := by decide +kernel
theorem dX5_fails_1 : decode cX5_fails 1 = .ok (.iload_n 1, 1) := by decide +kernel
theorem dX5_fails_2 : decode cX5_fails 2 = .ok (.putfield 43, 3) := by decide +kernel
theorem dX5_fails_5 : decode cX5_fails 5 = .ok (.bipush (-10), 2) := by decide +kernel
theorem dX5_fails_7 : decode cX5_fails 7 = .ok (.iload_n 1, 1) := by decide +kernel
theorem dX5_fails_8 : decode cX5_fails 8 = .ok (.isub, 1) := by decide +kernel
theorem dX5_fails_9 : decode cX5_fails 9 = .ok (.ireturn, 1) := by decide +kernel
theorem dX5_lost_0 : decode cX5_lost 0 = .ok (.aload_n 0, 1) := by decide +kernel
theorem dX5_lost_1 : decode cX5_lost 1 = .ok (.iload_n 1, 1) := by decide +kernel
theorem dX5_lost_2 : decode cX5_lost 2 = .ok (.putfield 43, 3) := by decide +kernel
theorem dX5_lost_5 : decode cX5_lost 5 = .ok (.ldc2_w 47, 3) := by decide +kernel
theorem dX5_lost_8 : decode cX5_lost 8 = .ok (.lreturn, 1) := by decide +kernel
theorem dX5_within_0 : decode cX5_within 0 = .ok (.iload_n 0, 1) := by decide +kernel
theorem dX5_within_1 : decode cX5_within 1 = .ok (.iload_n 1, 1) := by decide +kernel
theorem dX5_within_2 : decode cX5_within 2 = .ok (.if_icmp .lt 12, 3) := by decide +kernel
theorem dX5_within_5 : decode cX5_within 5 = .ok (.iload_n 0, 1) := by decide +kernel
theorem dX5_within_6 : decode cX5_within 6 = .ok (.iload_n 2, 1) := by decide +kernel
theorem dX5_within_7 : decode cX5_within 7 = .ok (.if_icmp .gt 7, 3) := by decide +kernel
theorem dX5_within_10 : decode cX5_within 10 = .ok (.iconst 1, 1) := by decide +kernel
theorem dX5_within_11 : decode cX5_within 11 = .ok (.goto 4, 3) := by decide +kernel
theorem dX5_within_14 : decode cX5_within 14 = .ok (.iconst 0, 1) := by decide +kernel
theorem dX5_within_15 : decode cX5_within 15 = .ok (.ireturn, 1) := by decide +kernel
theorem dX5_isSheet_0 : decode cX5_isSheet 0 = .ok (.iload_n 0, 1) := by decide +kernel
theorem dX5_isSheet_1 : decode cX5_isSheet 1 = .ok (.iconst 0, 1) := by decide +kernel
theorem dX5_isSheet_2 : decode cX5_isSheet 2 = .ok (.iconst 3, 1) := by decide +kernel
theorem dX5_isSheet_3 : decode cX5_isSheet 3 = .ok (.invokestatic 49, 3) := by decide +kernel
theorem dX5_isSheet_6 : decode cX5_isSheet 6 = .ok (.ireturn, 1) := by decide +kernel
theorem dX5_isSort_0 : decode cX5_isSort 0 = .ok (.iload_n 0, 1) := by decide +kernel
theorem dX5_isSort_1 : decode cX5_isSort 1 = .ok (.iconst 0, 1) := by decide +kernel
theorem dX5_isSort_2 : decode cX5_isSort 2 = .ok (.iconst 2, 1) := by decide +kernel
theorem dX5_isSort_3 : decode cX5_isSort 3 = .ok (.invokestatic 49, 3) := by decide +kernel
theorem dX5_isSort_6 : decode cX5_isSort 6 = .ok (.ireturn, 1) := by decide +kernel
theorem dX5_against_0 : decode cX5_against 0 = .ok (.aload_n 0, 1) := by decide +kernel
theorem dX5_against_1 : decode cX5_against 1 = .ok (.getfield 9, 3) := by decide +kernel
theorem dX5_against_4 : decode cX5_against 4 = .ok (.iload_n 1, 1) := by decide +kernel
theorem dX5_against_5 : decode cX5_against 5 = .ok (.iaload, 1) := by decide +kernel
theorem dX5_against_6 : decode cX5_against 6 = .ok (.bipush (-9), 2) := by decide +kernel
theorem dX5_against_8 : decode cX5_against 8 = .ok (.if_icmp .eq 15, 3) := by decide +kernel
theorem dX5_against_11 : decode cX5_against 11 = .ok (.aload_n 0, 1) := by decide +kernel
theorem dX5_against_12 : decode cX5_against 12 = .ok (.getfield 9, 3) := by decide +kernel
theorem dX5_against_15 : decode cX5_against 15 = .ok (.iload_n 1, 1) := by decide +kernel
theorem dX5_against_16 : decode cX5_against 16 = .ok (.iaload, 1) := by decide +kernel
theorem dX5_against_17 : decode cX5_against 17 = .ok (.iload_n 2, 1) := by decide +kernel
theorem dX5_against_18 : decode cX5_against 18 = .ok (.if_icmp .eq 5, 3) := by decide +kernel
theorem dX5_against_21 : decode cX5_against 21 = .ok (.iconst 2, 1) := by decide +kernel
theorem dX5_against_22 : decode cX5_against 22 = .ok (.ireturn, 1) := by decide +kernel
theorem dX5_against_23 : decode cX5_against 23 = .ok (.aload_n 0, 1) := by decide +kernel
theorem dX5_against_24 : decode cX5_against 24 = .ok (.getfield 9, 3) := by decide +kernel
theorem dX5_against_27 : decode cX5_against 27 = .ok (.iload_n 1, 1) := by decide +kernel
theorem dX5_against_28 : decode cX5_against 28 = .ok (.iaload, 1) := by decide +kernel
theorem dX5_against_29 : decode cX5_against 29 = .ok (.bipush (-9), 2) := by decide +kernel
theorem dX5_against_31 : decode cX5_against 31 = .ok (.if_icmp .ne 5, 3) := by decide +kernel
theorem dX5_against_34 : decode cX5_against 34 = .ok (.iconst 1, 1) := by decide +kernel
theorem dX5_against_35 : decode cX5_against 35 = .ok (.ireturn, 1) := by decide +kernel
theorem dX5_against_36 : decode cX5_against 36 = .ok (.iload 4, 2) := by decide +kernel
theorem dX5_against_38 : decode cX5_against 38 = .ok (.ifCond .ge 5, 3) := by decide +kernel
theorem dX5_against_41 : decode cX5_against 41 = .ok (.iconst 4, 1) := by decide +kernel
theorem dX5_against_42 : decode cX5_against 42 = .ok (.ireturn, 1) := by decide +kernel
theorem dX5_against_43 : decode cX5_against 43 = .ok (.iload_n 3, 1) := by decide +kernel
theorem dX5_against_44 : decode cX5_against 44 = .ok (.ifCond .lt 26, 3) := by decide +kernel
theorem dX5_against_47 : decode cX5_against 47 = .ok (.iload_n 3, 1) := by decide +kernel
theorem dX5_against_48 : decode cX5_against 48 = .ok (.aload_n 0, 1) := by decide +kernel
theorem dX5_against_49 : decode cX5_against 49 = .ok (.getfield 13, 3) := by decide +kernel
theorem dX5_against_52 : decode cX5_against 52 = .ok (.iload_n 1, 1) := by decide +kernel
theorem dX5_against_53 : decode cX5_against 53 = .ok (.iaload, 1) := by decide +kernel
theorem dX5_against_54 : decode cX5_against 54 = .ok (.if_icmp .gt 16, 3) := by decide +kernel
theorem dX5_against_57 : decode cX5_against 57 = .ok (.iload 4, 2) := by decide +kernel
theorem dX5_against_59 : decode cX5_against 59 = .ok (.aload_n 0, 1) := by decide +kernel
theorem dX5_against_60 : decode cX5_against 60 = .ok (.getfield 13, 3) := by decide +kernel
theorem dX5_against_63 : decode cX5_against 63 = .ok (.iload_n 1, 1) := by decide +kernel
theorem dX5_against_64 : decode cX5_against 64 = .ok (.iaload, 1) := by decide +kernel
theorem dX5_against_65 : decode cX5_against 65 = .ok (.iload_n 3, 1) := by decide +kernel
theorem dX5_against_66 : decode cX5_against 66 = .ok (.isub, 1) := by decide +kernel
theorem dX5_against_67 : decode cX5_against 67 = .ok (.if_icmp .le 7, 3) := by decide +kernel
theorem dX5_against_70 : decode cX5_against 70 = .ok (.iconst 3, 1) := by decide +kernel
theorem dX5_against_71 : decode cX5_against 71 = .ok (.goto 4, 3) := by decide +kernel
theorem dX5_against_74 : decode cX5_against 74 = .ok (.iconst 0, 1) := by decide +kernel
theorem dX5_against_75 : decode cX5_against 75 = .ok (.ireturn, 1) := by decide +kernel
theorem dX5_cellsOf_0 : decode cX5_cellsOf 0 = .ok (.aload_n 0, 1) := by decide +kernel
theorem dX5_cellsOf_1 : decode cX5_cellsOf 1 = .ok (.getfield 53, 3) := by decide +kernel
theorem dX5_cellsOf_4 : decode cX5_cellsOf 4 = .ok (.aload_n 0, 1) := by decide +kernel
theorem dX5_cellsOf_5 : decode cX5_cellsOf 5 = .ok (.getfield 56, 3) := by decide +kernel
theorem dX5_cellsOf_8 : decode cX5_cellsOf 8 = .ok (.imul, 1) := by decide +kernel
theorem dX5_cellsOf_9 : decode cX5_cellsOf 9 = .ok (.ireturn, 1) := by decide +kernel
theorem dX5_isCell_0 : decode cX5_isCell 0 = .ok (.iload_n 1, 1) := by decide +kernel
theorem dX5_isCell_1 : decode cX5_isCell 1 = .ok (.ifCond .lt 15, 3) := by decide +kernel
theorem dX5_isCell_4 : decode cX5_isCell 4 = .ok (.iload_n 1, 1) := by decide +kernel
theorem dX5_isCell_5 : decode cX5_isCell 5 = .ok (.aload_n 0, 1) := by decide +kernel
theorem dX5_isCell_6 : decode cX5_isCell 6 = .ok (.invokevirtual 59, 3) := by decide +kernel
theorem dX5_isCell_9 : decode cX5_isCell 9 = .ok (.if_icmp .ge 7, 3) := by decide +kernel
theorem dX5_isCell_12 : decode cX5_isCell 12 = .ok (.iconst 1, 1) := by decide +kernel
theorem dX5_isCell_13 : decode cX5_isCell 13 = .ok (.goto 4, 3) := by decide +kernel
theorem dX5_isCell_16 : decode cX5_isCell 16 = .ok (.iconst 0, 1) := by decide +kernel
theorem dX5_isCell_17 : decode cX5_isCell 17 = .ok (.ireturn, 1) := by decide +kernel
theorem dX5_isDigit_0 : decode cX5_isDigit 0 = .ok (.iload_n 0, 1) := by decide +kernel
theorem dX5_isDigit_1 : decode cX5_isDigit 1 = .ok (.iconst 0, 1) := by decide +kernel
theorem dX5_isDigit_2 : decode cX5_isDigit 2 = .ok (.bipush 9, 2) := by decide +kernel
theorem dX5_isDigit_4 : decode cX5_isDigit 4 = .ok (.invokestatic 49, 3) := by decide +kernel
theorem dX5_isDigit_7 : decode cX5_isDigit 7 = .ok (.ireturn, 1) := by decide +kernel
theorem dX5_isOf_0 : decode cX5_isOf 0 = .ok (.iload_n 0, 1) := by decide +kernel
theorem dX5_isOf_1 : decode cX5_isOf 1 = .ok (.iload_n 1, 1) := by decide +kernel
theorem dX5_isOf_2 : decode cX5_isOf 2 = .ok (.ishr, 1) := by decide +kernel
theorem dX5_isOf_3 : decode cX5_isOf 3 = .ok (.iconst 1, 1) := by decide +kernel
theorem dX5_isOf_4 : decode cX5_isOf 4 = .ok (.iand, 1) := by decide +kernel
theorem dX5_isOf_5 : decode cX5_isOf 5 = .ok (.iconst 1, 1) := by decide +kernel
theorem dX5_isOf_6 : decode cX5_isOf 6 = .ok (.if_icmp .ne 7, 3) := by decide +kernel
theorem dX5_isOf_9 : decode cX5_isOf 9 = .ok (.iconst 1, 1) := by decide +kernel
theorem dX5_isOf_10 : decode cX5_isOf 10 = .ok (.goto 4, 3) := by decide +kernel
theorem dX5_isOf_13 : decode cX5_isOf 13 = .ok (.iconst 0, 1) := by decide +kernel
theorem dX5_isOf_14 : decode cX5_isOf 14 = .ok (.ireturn, 1) := by decide +kernel
theorem dX5_size_0 : decode cX5_size 0 = .ok (.iconst 0, 1) := by decide +kernel
theorem dX5_size_1 : decode cX5_size 1 = .ok (.istore_n 1, 1) := by decide +kernel
theorem dX5_size_2 : decode cX5_size 2 = .ok (.iload_n 0, 1) := by decide +kernel
theorem dX5_size_3 : decode cX5_size 3 = .ok (.istore_n 2, 1) := by decide +kernel
theorem dX5_size_4 : decode cX5_size 4 = .ok (.iload_n 2, 1) := by decide +kernel
theorem dX5_size_5 : decode cX5_size 5 = .ok (.ifCond .le 16, 3) := by decide +kernel
theorem dX5_size_8 : decode cX5_size 8 = .ok (.iload_n 1, 1) := by decide +kernel
theorem dX5_size_9 : decode cX5_size 9 = .ok (.iload_n 2, 1) := by decide +kernel
theorem dX5_size_10 : decode cX5_size 10 = .ok (.iconst 1, 1) := by decide +kernel
theorem dX5_size_11 : decode cX5_size 11 = .ok (.iand, 1) := by decide +kernel
theorem dX5_size_12 : decode cX5_size 12 = .ok (.iadd, 1) := by decide +kernel
theorem dX5_size_13 : decode cX5_size 13 = .ok (.istore_n 1, 1) := by decide +kernel
theorem dX5_size_14 : decode cX5_size 14 = .ok (.iload_n 2, 1) := by decide +kernel
theorem dX5_size_15 : decode cX5_size 15 = .ok (.iconst 1, 1) := by decide +kernel
theorem dX5_size_16 : decode cX5_size 16 = .ok (.ishr, 1) := by decide +kernel
theorem dX5_size_17 : decode cX5_size 17 = .ok (.istore_n 2, 1) := by decide +kernel
theorem dX5_size_18 : decode cX5_size 18 = .ok (.goto (-14), 3) := by decide +kernel
theorem dX5_size_21 : decode cX5_size 21 = .ok (.iload_n 1, 1) := by decide +kernel
theorem dX5_size_22 : decode cX5_size 22 = .ok (.ireturn, 1) := by decide +kernel
theorem dX5_digit_0 : decode cX5_digit 0 = .ok (.aload_n 0, 1) := by decide +kernel
theorem dX5_digit_1 : decode cX5_digit 1 = .ok (.getfield 63, 3) := by decide +kernel
theorem dX5_digit_4 : decode cX5_digit 4 = .ok (.iload_n 1, 1) := by decide +kernel
theorem dX5_digit_5 : decode cX5_digit 5 = .ok (.if_icmp .ge 26, 3) := by decide +kernel
theorem dX5_digit_8 : decode cX5_digit 8 = .ok (.aload_n 0, 1) := by decide +kernel
theorem dX5_digit_9 : decode cX5_digit 9 = .ok (.getfield 16, 3) := by decide +kernel
theorem dX5_digit_12 : decode cX5_digit 12 = .ok (.aload_n 0, 1) := by decide +kernel
theorem dX5_digit_13 : decode cX5_digit 13 = .ok (.getfield 63, 3) := by decide +kernel
theorem dX5_digit_16 : decode cX5_digit 16 = .ok (.iaload, 1) := by decide +kernel
theorem dX5_digit_17 : decode cX5_digit 17 = .ok (.bipush 48, 2) := by decide +kernel
theorem dX5_digit_19 : decode cX5_digit 19 = .ok (.iload_n 2, 1) := by decide +kernel
theorem dX5_digit_20 : decode cX5_digit 20 = .ok (.iadd, 1) := by decide +kernel
theorem dX5_digit_21 : decode cX5_digit 21 = .ok (.bipush 48, 2) := by decide +kernel
theorem dX5_digit_23 : decode cX5_digit 23 = .ok (.iload_n 3, 1) := by decide +kernel
theorem dX5_digit_24 : decode cX5_digit 24 = .ok (.iadd, 1) := by decide +kernel
theorem dX5_digit_25 : decode cX5_digit 25 = .ok (.invokestatic 49, 3) := by decide +kernel
theorem dX5_digit_28 : decode cX5_digit 28 = .ok (.ifCond .ne 6, 3) := by decide +kernel
theorem dX5_digit_31 : decode cX5_digit 31 = .ok (.bipush (-9), 2) := by decide +kernel
theorem dX5_digit_33 : decode cX5_digit 33 = .ok (.ireturn, 1) := by decide +kernel
theorem dX5_digit_34 : decode cX5_digit 34 = .ok (.aload_n 0, 1) := by decide +kernel
theorem dX5_digit_35 : decode cX5_digit 35 = .ok (.dup, 1) := by decide +kernel
theorem dX5_digit_36 : decode cX5_digit 36 = .ok (.getfield 63, 3) := by decide +kernel
theorem dX5_digit_39 : decode cX5_digit 39 = .ok (.iconst 1, 1) := by decide +kernel
theorem dX5_digit_40 : decode cX5_digit 40 = .ok (.iadd, 1) := by decide +kernel
theorem dX5_digit_41 : decode cX5_digit 41 = .ok (.putfield 63, 3) := by decide +kernel
theorem dX5_digit_44 : decode cX5_digit 44 = .ok (.aload_n 0, 1) := by decide +kernel
theorem dX5_digit_45 : decode cX5_digit 45 = .ok (.getfield 16, 3) := by decide +kernel
theorem dX5_digit_48 : decode cX5_digit 48 = .ok (.aload_n 0, 1) := by decide +kernel
theorem dX5_digit_49 : decode cX5_digit 49 = .ok (.getfield 63, 3) := by decide +kernel
theorem dX5_digit_52 : decode cX5_digit 52 = .ok (.iconst 1, 1) := by decide +kernel
theorem dX5_digit_53 : decode cX5_digit 53 = .ok (.isub, 1) := by decide +kernel
theorem dX5_digit_54 : decode cX5_digit 54 = .ok (.iaload, 1) := by decide +kernel
theorem dX5_digit_55 : decode cX5_digit 55 = .ok (.bipush 48, 2) := by decide +kernel
theorem dX5_digit_57 : decode cX5_digit 57 = .ok (.isub, 1) := by decide +kernel
theorem dX5_digit_58 : decode cX5_digit 58 = .ok (.ireturn, 1) := by decide +kernel
theorem dX5_bay_0 : decode cX5_bay 0 = .ok (.aload_n 0, 1) := by decide +kernel
theorem dX5_bay_1 : decode cX5_bay 1 = .ok (.iconst 0, 1) := by decide +kernel
theorem dX5_bay_2 : decode cX5_bay 2 = .ok (.putfield 43, 3) := by decide +kernel
theorem dX5_bay_5 : decode cX5_bay 5 = .ok (.iload_n 1, 1) := by decide +kernel
theorem dX5_bay_6 : decode cX5_bay 6 = .ok (.invokestatic 66, 3) := by decide +kernel
theorem dX5_bay_9 : decode cX5_bay 9 = .ok (.ifCond .ne 5, 3) := by decide +kernel
theorem dX5_bay_12 : decode cX5_bay 12 = .ok (.iconst (-1), 1) := by decide +kernel
theorem dX5_bay_13 : decode cX5_bay 13 = .ok (.ireturn, 1) := by decide +kernel
theorem dX5_bay_14 : decode cX5_bay 14 = .ok (.iload_n 2, 1) := by decide +kernel
theorem dX5_bay_15 : decode cX5_bay 15 = .ok (.invokestatic 70, 3) := by decide +kernel
theorem dX5_bay_18 : decode cX5_bay 18 = .ok (.ifCond .ne 6, 3) := by decide +kernel
theorem dX5_bay_21 : decode cX5_bay 21 = .ok (.bipush (-2), 2) := by decide +kernel
theorem dX5_bay_23 : decode cX5_bay 23 = .ok (.ireturn, 1) := by decide +kernel
theorem dX5_bay_24 : decode cX5_bay 24 = .ok (.aload_n 0, 1) := by decide +kernel
theorem dX5_bay_25 : decode cX5_bay 25 = .ok (.iload_n 1, 1) := by decide +kernel
theorem dX5_bay_26 : decode cX5_bay 26 = .ok (.iload_n 2, 1) := by decide +kernel
theorem dX5_bay_27 : decode cX5_bay 27 = .ok (.iload_n 3, 1) := by decide +kernel
theorem dX5_bay_28 : decode cX5_bay 28 = .ok (.iload 4, 2) := by decide +kernel
theorem dX5_bay_30 : decode cX5_bay 30 = .ok (.invokevirtual 73, 3) := by decide +kernel
theorem dX5_bay_33 : decode cX5_bay 33 = .ok (.istore 5, 2) := by decide +kernel
theorem dX5_bay_35 : decode cX5_bay 35 = .ok (.iload 5, 2) := by decide +kernel
theorem dX5_bay_37 : decode cX5_bay 37 = .ok (.ifCond .eq 10, 3) := by decide +kernel
theorem dX5_bay_40 : decode cX5_bay 40 = .ok (.aload_n 0, 1) := by decide +kernel
theorem dX5_bay_41 : decode cX5_bay 41 = .ok (.iload 5, 2) := by decide +kernel
theorem dX5_bay_43 : decode cX5_bay 43 = .ok (.invokevirtual 77, 3) := by decide +kernel
theorem dX5_bay_46 : decode cX5_bay 46 = .ok (.ireturn, 1) := by decide +kernel
theorem dX5_bay_47 : decode cX5_bay 47 = .ok (.bipush 60, 2) := by decide +kernel
theorem dX5_bay_49 : decode cX5_bay 49 = .ok (.iload_n 1, 1) := by decide +kernel
theorem dX5_bay_50 : decode cX5_bay 50 = .ok (.imul, 1) := by decide +kernel
theorem dX5_bay_51 : decode cX5_bay 51 = .ok (.iload_n 3, 1) := by decide +kernel
theorem dX5_bay_52 : decode cX5_bay 52 = .ok (.iadd, 1) := by decide +kernel
theorem dX5_bay_53 : decode cX5_bay 53 = .ok (.istore 6, 2) := by decide +kernel
theorem dX5_bay_55 : decode cX5_bay 55 = .ok (.aload_n 0, 1) := by decide +kernel
theorem dX5_bay_56 : decode cX5_bay 56 = .ok (.iload 6, 2) := by decide +kernel
theorem dX5_bay_58 : decode cX5_bay 58 = .ok (.putfield 63, 3) := by decide +kernel
theorem dX5_bay_61 : decode cX5_bay 61 = .ok (.aload_n 0, 1) := by decide +kernel
theorem dX5_bay_62 : decode cX5_bay 62 = .ok (.iload 6, 2) := by decide +kernel
theorem dX5_bay_64 : decode cX5_bay 64 = .ok (.iload 4, 2) := by decide +kernel
theorem dX5_bay_66 : decode cX5_bay 66 = .ok (.iadd, 1) := by decide +kernel
theorem dX5_bay_67 : decode cX5_bay 67 = .ok (.invokevirtual 81, 3) := by decide +kernel
theorem dX5_bay_70 : decode cX5_bay 70 = .ok (.ifCond .ne 14, 3) := by decide +kernel
theorem dX5_bay_73 : decode cX5_bay 73 = .ok (.bipush (-100), 2) := by decide +kernel
theorem dX5_bay_75 : decode cX5_bay 75 = .ok (.aload_n 0, 1) := by decide +kernel
theorem dX5_bay_76 : decode cX5_bay 76 = .ok (.getfield 63, 3) := by decide +kernel
theorem dX5_bay_79 : decode cX5_bay 79 = .ok (.iload 6, 2) := by decide +kernel
theorem dX5_bay_81 : decode cX5_bay 81 = .ok (.isub, 1) := by decide +kernel
theorem dX5_bay_82 : decode cX5_bay 82 = .ok (.isub, 1) := by decide +kernel
theorem dX5_bay_83 : decode cX5_bay 83 = .ok (.ireturn, 1) := by decide +kernel
theorem dX5_bay_84 : decode cX5_bay 84 = .ok (.aload_n 0, 1) := by decide +kernel
theorem dX5_bay_85 : decode cX5_bay 85 = .ok (.invokevirtual 84, 3) := by decide +kernel
theorem dX5_bay_88 : decode cX5_bay 88 = .ok (.aload_n 0, 1) := by decide +kernel
theorem dX5_bay_89 : decode cX5_bay 89 = .ok (.invokevirtual 59, 3) := by decide +kernel
theorem dX5_bay_92 : decode cX5_bay 92 = .ok (.ireturn, 1) := by decide +kernel
theorem dX5_takeBay_0 : decode cX5_takeBay 0 = .ok (.aload_n 0, 1) := by decide +kernel
theorem dX5_takeBay_1 : decode cX5_takeBay 1 = .ok (.aload_n 0, 1) := by decide +kernel
theorem dX5_takeBay_2 : decode cX5_takeBay 2 = .ok (.getfield 87, 3) := by decide +kernel
theorem dX5_takeBay_5 : decode cX5_takeBay 5 = .ok (.putfield 90, 3) := by decide +kernel
theorem dX5_takeBay_8 : decode cX5_takeBay 8 = .ok (.aload_n 0, 1) := by decide +kernel
theorem dX5_takeBay_9 : decode cX5_takeBay 9 = .ok (.aload_n 0, 1) := by decide +kernel
theorem dX5_takeBay_10 : decode cX5_takeBay 10 = .ok (.getfield 93, 3) := by decide +kernel
theorem dX5_takeBay_13 : decode cX5_takeBay 13 = .ok (.putfield 53, 3) := by decide +kernel
theorem dX5_takeBay_16 : decode cX5_takeBay 16 = .ok (.aload_n 0, 1) := by decide +kernel
theorem dX5_takeBay_17 : decode cX5_takeBay 17 = .ok (.aload_n 0, 1) := by decide +kernel
theorem dX5_takeBay_18 : decode cX5_takeBay 18 = .ok (.getfield 96, 3) := by decide +kernel
theorem dX5_takeBay_21 : decode cX5_takeBay 21 = .ok (.putfield 56, 3) := by decide +kernel
theorem dX5_takeBay_24 : decode cX5_takeBay 24 = .ok (.aload_n 0, 1) := by decide +kernel
theorem dX5_takeBay_25 : decode cX5_takeBay 25 = .ok (.iconst 0, 1) := by decide +kernel
theorem dX5_takeBay_26 : decode cX5_takeBay 26 = .ok (.putfield 99, 3) := by decide +kernel
theorem dX5_takeBay_29 : decode cX5_takeBay 29 = .ok (.iconst 0, 1) := by decide +kernel
theorem dX5_takeBay_30 : decode cX5_takeBay 30 = .ok (.istore_n 1, 1) := by decide +kernel
theorem dX5_takeBay_31 : decode cX5_takeBay 31 = .ok (.iload_n 1, 1) := by decide +kernel
theorem dX5_takeBay_32 : decode cX5_takeBay 32 = .ok (.aload_n 0, 1) := by decide +kernel
theorem dX5_takeBay_33 : decode cX5_takeBay 33 = .ok (.invokevirtual 59, 3) := by decide +kernel
theorem dX5_takeBay_36 : decode cX5_takeBay 36 = .ok (.if_icmp .ge 33, 3) := by decide +kernel
theorem dX5_takeBay_39 : decode cX5_takeBay 39 = .ok (.aload_n 0, 1) := by decide +kernel
theorem dX5_takeBay_40 : decode cX5_takeBay 40 = .ok (.getfield 19, 3) := by decide +kernel
theorem dX5_takeBay_43 : decode cX5_takeBay 43 = .ok (.iload_n 1, 1) := by decide +kernel
theorem dX5_takeBay_44 : decode cX5_takeBay 44 = .ok (.aload_n 0, 1) := by decide +kernel
theorem dX5_takeBay_45 : decode cX5_takeBay 45 = .ok (.getfield 25, 3) := by decide +kernel
theorem dX5_takeBay_48 : decode cX5_takeBay 48 = .ok (.iload_n 1, 1) := by decide +kernel
theorem dX5_takeBay_49 : decode cX5_takeBay 49 = .ok (.iaload, 1) := by decide +kernel
theorem dX5_takeBay_50 : decode cX5_takeBay 50 = .ok (.iastore, 1) := by decide +kernel
theorem dX5_takeBay_51 : decode cX5_takeBay 51 = .ok (.aload_n 0, 1) := by decide +kernel
theorem dX5_takeBay_52 : decode cX5_takeBay 52 = .ok (.getfield 22, 3) := by decide +kernel
theorem dX5_takeBay_55 : decode cX5_takeBay 55 = .ok (.iload_n 1, 1) := by decide +kernel
theorem dX5_takeBay_56 : decode cX5_takeBay 56 = .ok (.aload_n 0, 1) := by decide +kernel
theorem dX5_takeBay_57 : decode cX5_takeBay 57 = .ok (.getfield 28, 3) := by decide +kernel
theorem dX5_takeBay_60 : decode cX5_takeBay 60 = .ok (.iload_n 1, 1) := by decide +kernel
theorem dX5_takeBay_61 : decode cX5_takeBay 61 = .ok (.iaload, 1) := by decide +kernel
theorem dX5_takeBay_62 : decode cX5_takeBay 62 = .ok (.iastore, 1) := by decide +kernel
theorem dX5_takeBay_63 : decode cX5_takeBay 63 = .ok (.iinc 1 1, 3) := by decide +kernel
theorem dX5_takeBay_66 : decode cX5_takeBay 66 = .ok (.goto (-35), 3) := by decide +kernel
theorem dX5_takeBay_69 : decode cX5_takeBay 69 = .ok (.aload_n 0, 1) := by decide +kernel
theorem dX5_takeBay_70 : decode cX5_takeBay 70 = .ok (.iconst 0, 1) := by decide +kernel
theorem dX5_takeBay_71 : decode cX5_takeBay 71 = .ok (.putfield 102, 3) := by decide +kernel
theorem dX5_takeBay_74 : decode cX5_takeBay 74 = .ok (.return_, 1) := by decide +kernel
theorem dX5_readBay_0 : decode cX5_readBay 0 = .ok (.aload_n 0, 1) := by decide +kernel
theorem dX5_readBay_1 : decode cX5_readBay 1 = .ok (.getfield 63, 3) := by decide +kernel
theorem dX5_readBay_4 : decode cX5_readBay 4 = .ok (.iload_n 1, 1) := by decide +kernel
theorem dX5_readBay_5 : decode cX5_readBay 5 = .ok (.if_icmp .ge 17, 3) := by decide +kernel
theorem dX5_readBay_8 : decode cX5_readBay 8 = .ok (.aload_n 0, 1) := by decide +kernel
theorem dX5_readBay_9 : decode cX5_readBay 9 = .ok (.getfield 16, 3) := by decide +kernel
theorem dX5_readBay_12 : decode cX5_readBay 12 = .ok (.aload_n 0, 1) := by decide +kernel
theorem dX5_readBay_13 : decode cX5_readBay 13 = .ok (.getfield 63, 3) := by decide +kernel
theorem dX5_readBay_16 : decode cX5_readBay 16 = .ok (.iaload, 1) := by decide +kernel
theorem dX5_readBay_17 : decode cX5_readBay 17 = .ok (.bipush 98, 2) := by decide +kernel
theorem dX5_readBay_19 : decode cX5_readBay 19 = .ok (.if_icmp .eq 5, 3) := by decide +kernel
theorem dX5_readBay_22 : decode cX5_readBay 22 = .ok (.iconst 0, 1) := by decide +kernel
theorem dX5_readBay_23 : decode cX5_readBay 23 = .ok (.ireturn, 1) := by decide +kernel
theorem dX5_readBay_24 : decode cX5_readBay 24 = .ok (.aload_n 0, 1) := by decide +kernel
theorem dX5_readBay_25 : decode cX5_readBay 25 = .ok (.dup, 1) := by decide +kernel
theorem dX5_readBay_26 : decode cX5_readBay 26 = .ok (.getfield 63, 3) := by decide +kernel
theorem dX5_readBay_29 : decode cX5_readBay 29 = .ok (.iconst 1, 1) := by decide +kernel
theorem dX5_readBay_30 : decode cX5_readBay 30 = .ok (.iadd, 1) := by decide +kernel
theorem dX5_readBay_31 : decode cX5_readBay 31 = .ok (.putfield 63, 3) := by decide +kernel
theorem dX5_readBay_34 : decode cX5_readBay 34 = .ok (.aload_n 0, 1) := by decide +kernel
theorem dX5_readBay_35 : decode cX5_readBay 35 = .ok (.aload_n 0, 1) := by decide +kernel
theorem dX5_readBay_36 : decode cX5_readBay 36 = .ok (.iload_n 1, 1) := by decide +kernel
theorem dX5_readBay_37 : decode cX5_readBay 37 = .ok (.iconst 0, 1) := by decide +kernel
theorem dX5_readBay_38 : decode cX5_readBay 38 = .ok (.bipush 9, 2) := by decide +kernel
theorem dX5_readBay_40 : decode cX5_readBay 40 = .ok (.invokevirtual 105, 3) := by decide +kernel
theorem dX5_readBay_43 : decode cX5_readBay 43 = .ok (.putfield 87, 3) := by decide +kernel
theorem dX5_readBay_46 : decode cX5_readBay 46 = .ok (.aload_n 0, 1) := by decide +kernel
theorem dX5_readBay_47 : decode cX5_readBay 47 = .ok (.getfield 87, 3) := by decide +kernel
theorem dX5_readBay_50 : decode cX5_readBay 50 = .ok (.bipush (-9), 2) := by decide +kernel
theorem dX5_readBay_52 : decode cX5_readBay 52 = .ok (.if_icmp .ne 5, 3) := by decide +kernel
theorem dX5_readBay_55 : decode cX5_readBay 55 = .ok (.iconst 0, 1) := by decide +kernel
theorem dX5_readBay_56 : decode cX5_readBay 56 = .ok (.ireturn, 1) := by decide +kernel
theorem dX5_readBay_57 : decode cX5_readBay 57 = .ok (.aload_n 0, 1) := by decide +kernel
theorem dX5_readBay_58 : decode cX5_readBay 58 = .ok (.aload_n 0, 1) := by decide +kernel
theorem dX5_readBay_59 : decode cX5_readBay 59 = .ok (.iload_n 1, 1) := by decide +kernel
theorem dX5_readBay_60 : decode cX5_readBay 60 = .ok (.iconst 2, 1) := by decide +kernel
theorem dX5_readBay_61 : decode cX5_readBay 61 = .ok (.iconst 4, 1) := by decide +kernel
theorem dX5_readBay_62 : decode cX5_readBay 62 = .ok (.invokevirtual 105, 3) := by decide +kernel
theorem dX5_readBay_65 : decode cX5_readBay 65 = .ok (.putfield 93, 3) := by decide +kernel
theorem dX5_readBay_68 : decode cX5_readBay 68 = .ok (.aload_n 0, 1) := by decide +kernel
theorem dX5_readBay_69 : decode cX5_readBay 69 = .ok (.getfield 93, 3) := by decide +kernel
theorem dX5_readBay_72 : decode cX5_readBay 72 = .ok (.bipush (-9), 2) := by decide +kernel
theorem dX5_readBay_74 : decode cX5_readBay 74 = .ok (.if_icmp .ne 5, 3) := by decide +kernel
theorem dX5_readBay_77 : decode cX5_readBay 77 = .ok (.iconst 0, 1) := by decide +kernel
theorem dX5_readBay_78 : decode cX5_readBay 78 = .ok (.ireturn, 1) := by decide +kernel
theorem dX5_readBay_79 : decode cX5_readBay 79 = .ok (.aload_n 0, 1) := by decide +kernel
theorem dX5_readBay_80 : decode cX5_readBay 80 = .ok (.aload_n 0, 1) := by decide +kernel
theorem dX5_readBay_81 : decode cX5_readBay 81 = .ok (.iload_n 1, 1) := by decide +kernel
theorem dX5_readBay_82 : decode cX5_readBay 82 = .ok (.iconst 2, 1) := by decide +kernel
theorem dX5_readBay_83 : decode cX5_readBay 83 = .ok (.iconst 3, 1) := by decide +kernel
theorem dX5_readBay_84 : decode cX5_readBay 84 = .ok (.invokevirtual 105, 3) := by decide +kernel
theorem dX5_readBay_87 : decode cX5_readBay 87 = .ok (.putfield 96, 3) := by decide +kernel
theorem dX5_readBay_90 : decode cX5_readBay 90 = .ok (.aload_n 0, 1) := by decide +kernel
theorem dX5_readBay_91 : decode cX5_readBay 91 = .ok (.getfield 96, 3) := by decide +kernel
theorem dX5_readBay_94 : decode cX5_readBay 94 = .ok (.bipush (-9), 2) := by decide +kernel
theorem dX5_readBay_96 : decode cX5_readBay 96 = .ok (.if_icmp .ne 5, 3) := by decide +kernel
theorem dX5_readBay_99 : decode cX5_readBay 99 = .ok (.iconst 0, 1) := by decide +kernel
theorem dX5_readBay_100 : decode cX5_readBay 100 = .ok (.ireturn, 1) := by decide +kernel
theorem dX5_readBay_101 : decode cX5_readBay 101 = .ok (.iconst 0, 1) := by decide +kernel
theorem dX5_readBay_102 : decode cX5_readBay 102 = .ok (.istore_n 2, 1) := by decide +kernel
theorem dX5_readBay_103 : decode cX5_readBay 103 = .ok (.iload_n 2, 1) := by decide +kernel
theorem dX5_readBay_104 : decode cX5_readBay 104 = .ok (.aload_n 0, 1) := by decide +kernel
theorem dX5_readBay_105 : decode cX5_readBay 105 = .ok (.getfield 93, 3) := by decide +kernel
theorem dX5_readBay_108 : decode cX5_readBay 108 = .ok (.aload_n 0, 1) := by decide +kernel
theorem dX5_readBay_109 : decode cX5_readBay 109 = .ok (.getfield 96, 3) := by decide +kernel
theorem dX5_readBay_112 : decode cX5_readBay 112 = .ok (.imul, 1) := by decide +kernel
theorem dX5_readBay_113 : decode cX5_readBay 113 = .ok (.if_icmp .ge 20, 3) := by decide +kernel
theorem dX5_readBay_116 : decode cX5_readBay 116 = .ok (.aload_n 0, 1) := by decide +kernel
theorem dX5_readBay_117 : decode cX5_readBay 117 = .ok (.iload_n 1, 1) := by decide +kernel
theorem dX5_readBay_118 : decode cX5_readBay 118 = .ok (.iload_n 2, 1) := by decide +kernel
theorem dX5_readBay_119 : decode cX5_readBay 119 = .ok (.invokevirtual 109, 3) := by decide +kernel
theorem dX5_readBay_122 : decode cX5_readBay 122 = .ok (.ifCond .ne 5, 3) := by decide +kernel
theorem dX5_readBay_125 : decode cX5_readBay 125 = .ok (.iconst 0, 1) := by decide +kernel
theorem dX5_readBay_126 : decode cX5_readBay 126 = .ok (.ireturn, 1) := by decide +kernel
theorem dX5_readBay_127 : decode cX5_readBay 127 = .ok (.iinc 2 1, 3) := by decide +kernel
theorem dX5_readBay_130 : decode cX5_readBay 130 = .ok (.goto (-27), 3) := by decide +kernel
theorem dX5_readBay_133 : decode cX5_readBay 133 = .ok (.aload_n 0, 1) := by decide +kernel
theorem dX5_readBay_134 : decode cX5_readBay 134 = .ok (.getfield 63, 3) := by decide +kernel
theorem dX5_readBay_137 : decode cX5_readBay 137 = .ok (.iload_n 1, 1) := by decide +kernel
theorem dX5_readBay_138 : decode cX5_readBay 138 = .ok (.if_icmp .ne 7, 3) := by decide +kernel
theorem dX5_readBay_141 : decode cX5_readBay 141 = .ok (.iconst 1, 1) := by decide +kernel
theorem dX5_readBay_142 : decode cX5_readBay 142 = .ok (.goto 4, 3) := by decide +kernel
theorem dX5_readBay_145 : decode cX5_readBay 145 = .ok (.iconst 0, 1) := by decide +kernel
theorem dX5_readBay_146 : decode cX5_readBay 146 = .ok (.ireturn, 1) := by decide +kernel
theorem dX5_readCell_0 : decode cX5_readCell 0 = .ok (.aload_n 0, 1) := by decide +kernel
theorem dX5_readCell_1 : decode cX5_readCell 1 = .ok (.getfield 63, 3) := by decide +kernel
theorem dX5_readCell_4 : decode cX5_readCell 4 = .ok (.iload_n 1, 1) := by decide +kernel
theorem dX5_readCell_5 : decode cX5_readCell 5 = .ok (.if_icmp .ge 15, 3) := by decide +kernel
theorem dX5_readCell_8 : decode cX5_readCell 8 = .ok (.aload_n 0, 1) := by decide +kernel
theorem dX5_readCell_9 : decode cX5_readCell 9 = .ok (.getfield 16, 3) := by decide +kernel
theorem dX5_readCell_12 : decode cX5_readCell 12 = .ok (.aload_n 0, 1) := by decide +kernel
theorem dX5_readCell_13 : decode cX5_readCell 13 = .ok (.getfield 63, 3) := by decide +kernel
theorem dX5_readCell_16 : decode cX5_readCell 16 = .ok (.iaload, 1) := by decide +kernel
theorem dX5_readCell_17 : decode cX5_readCell 17 = .ok (.goto 4, 3) := by decide +kernel
theorem dX5_readCell_20 : decode cX5_readCell 20 = .ok (.iconst 0, 1) := by decide +kernel
theorem dX5_readCell_21 : decode cX5_readCell 21 = .ok (.istore_n 3, 1) := by decide +kernel
theorem dX5_readCell_22 : decode cX5_readCell 22 = .ok (.aload_n 0, 1) := by decide +kernel
theorem dX5_readCell_23 : decode cX5_readCell 23 = .ok (.getfield 25, 3) := by decide +kernel
theorem dX5_readCell_26 : decode cX5_readCell 26 = .ok (.iload_n 2, 1) := by decide +kernel
theorem dX5_readCell_27 : decode cX5_readCell 27 = .ok (.iload_n 3, 1) := by decide +kernel
theorem dX5_readCell_28 : decode cX5_readCell 28 = .ok (.bipush 109, 2) := by decide +kernel
theorem dX5_readCell_30 : decode cX5_readCell 30 = .ok (.if_icmp .ne 7, 3) := by decide +kernel
theorem dX5_readCell_33 : decode cX5_readCell 33 = .ok (.iconst 0, 1) := by decide +kernel
theorem dX5_readCell_34 : decode cX5_readCell 34 = .ok (.goto 25, 3) := by decide +kernel
theorem dX5_readCell_37 : decode cX5_readCell 37 = .ok (.iload_n 3, 1) := by decide +kernel
theorem dX5_readCell_38 : decode cX5_readCell 38 = .ok (.bipush 115, 2) := by decide +kernel
theorem dX5_readCell_40 : decode cX5_readCell 40 = .ok (.if_icmp .ne 7, 3) := by decide +kernel
theorem dX5_readCell_43 : decode cX5_readCell 43 = .ok (.iconst 1, 1) := by decide +kernel
theorem dX5_readCell_44 : decode cX5_readCell 44 = .ok (.goto 15, 3) := by decide +kernel
theorem dX5_readCell_47 : decode cX5_readCell 47 = .ok (.iload_n 3, 1) := by decide +kernel
theorem dX5_readCell_48 : decode cX5_readCell 48 = .ok (.bipush 99, 2) := by decide +kernel
theorem dX5_readCell_50 : decode cX5_readCell 50 = .ok (.if_icmp .ne 7, 3) := by decide +kernel
theorem dX5_readCell_53 : decode cX5_readCell 53 = .ok (.iconst 2, 1) := by decide +kernel
theorem dX5_readCell_54 : decode cX5_readCell 54 = .ok (.goto 5, 3) := by decide +kernel
theorem dX5_readCell_57 : decode cX5_readCell 57 = .ok (.bipush (-9), 2) := by decide +kernel
theorem dX5_readCell_59 : decode cX5_readCell 59 = .ok (.iastore, 1) := by decide +kernel
theorem dX5_readCell_60 : decode cX5_readCell 60 = .ok (.aload_n 0, 1) := by decide +kernel
theorem dX5_readCell_61 : decode cX5_readCell 61 = .ok (.getfield 25, 3) := by decide +kernel
theorem dX5_readCell_64 : decode cX5_readCell 64 = .ok (.iload_n 2, 1) := by decide +kernel
theorem dX5_readCell_65 : decode cX5_readCell 65 = .ok (.iaload, 1) := by decide +kernel
theorem dX5_readCell_66 : decode cX5_readCell 66 = .ok (.bipush (-9), 2) := by decide +kernel
theorem dX5_readCell_68 : decode cX5_readCell 68 = .ok (.if_icmp .ne 5, 3) := by decide +kernel
theorem dX5_readCell_71 : decode cX5_readCell 71 = .ok (.iconst 0, 1) := by decide +kernel
theorem dX5_readCell_72 : decode cX5_readCell 72 = .ok (.ireturn, 1) := by decide +kernel
theorem dX5_readCell_73 : decode cX5_readCell 73 = .ok (.aload_n 0, 1) := by decide +kernel
theorem dX5_readCell_74 : decode cX5_readCell 74 = .ok (.dup, 1) := by decide +kernel
theorem dX5_readCell_75 : decode cX5_readCell 75 = .ok (.getfield 63, 3) := by decide +kernel
theorem dX5_readCell_78 : decode cX5_readCell 78 = .ok (.iconst 1, 1) := by decide +kernel
theorem dX5_readCell_79 : decode cX5_readCell 79 = .ok (.iadd, 1) := by decide +kernel
theorem dX5_readCell_80 : decode cX5_readCell 80 = .ok (.putfield 63, 3) := by decide +kernel
theorem dX5_readCell_83 : decode cX5_readCell 83 = .ok (.aload_n 0, 1) := by decide +kernel
theorem dX5_readCell_84 : decode cX5_readCell 84 = .ok (.getfield 28, 3) := by decide +kernel
theorem dX5_readCell_87 : decode cX5_readCell 87 = .ok (.iload_n 2, 1) := by decide +kernel
theorem dX5_readCell_88 : decode cX5_readCell 88 = .ok (.aload_n 0, 1) := by decide +kernel
theorem dX5_readCell_89 : decode cX5_readCell 89 = .ok (.iload_n 1, 1) := by decide +kernel
theorem dX5_readCell_90 : decode cX5_readCell 90 = .ok (.iconst 0, 1) := by decide +kernel
theorem dX5_readCell_91 : decode cX5_readCell 91 = .ok (.bipush 9, 2) := by decide +kernel
theorem dX5_readCell_93 : decode cX5_readCell 93 = .ok (.invokevirtual 105, 3) := by decide +kernel
theorem dX5_readCell_96 : decode cX5_readCell 96 = .ok (.iastore, 1) := by decide +kernel
theorem dX5_readCell_97 : decode cX5_readCell 97 = .ok (.aload_n 0, 1) := by decide +kernel
theorem dX5_readCell_98 : decode cX5_readCell 98 = .ok (.getfield 28, 3) := by decide +kernel
theorem dX5_readCell_101 : decode cX5_readCell 101 = .ok (.iload_n 2, 1) := by decide +kernel
theorem dX5_readCell_102 : decode cX5_readCell 102 = .ok (.iaload, 1) := by decide +kernel
theorem dX5_readCell_103 : decode cX5_readCell 103 = .ok (.bipush (-9), 2) := by decide +kernel
theorem dX5_readCell_105 : decode cX5_readCell 105 = .ok (.if_icmp .eq 7, 3) := by decide +kernel
theorem dX5_readCell_108 : decode cX5_readCell 108 = .ok (.iconst 1, 1) := by decide +kernel
theorem dX5_readCell_109 : decode cX5_readCell 109 = .ok (.goto 4, 3) := by decide +kernel
theorem dX5_readCell_112 : decode cX5_readCell 112 = .ok (.iconst 0, 1) := by decide +kernel
theorem dX5_readCell_113 : decode cX5_readCell 113 = .ok (.ireturn, 1) := by decide +kernel
theorem dX5_losesOf_0 : decode cX5_losesOf 0 = .ok (.aload_n 0, 1) := by decide +kernel
theorem dX5_losesOf_1 : decode cX5_losesOf 1 = .ok (.getfield 19, 3) := by decide +kernel
theorem dX5_losesOf_4 : decode cX5_losesOf 4 = .ok (.iload_n 1, 1) := by decide +kernel
theorem dX5_losesOf_5 : decode cX5_losesOf 5 = .ok (.iaload, 1) := by decide +kernel
theorem dX5_losesOf_6 : decode cX5_losesOf 6 = .ok (.ifCond .ne 10, 3) := by decide +kernel
theorem dX5_losesOf_9 : decode cX5_losesOf 9 = .ok (.aload_n 0, 1) := by decide +kernel
theorem dX5_losesOf_10 : decode cX5_losesOf 10 = .ok (.getfield 90, 3) := by decide +kernel
theorem dX5_losesOf_13 : decode cX5_losesOf 13 = .ok (.goto 28, 3) := by decide +kernel
theorem dX5_losesOf_16 : decode cX5_losesOf 16 = .ok (.aload_n 0, 1) := by decide +kernel
theorem dX5_losesOf_17 : decode cX5_losesOf 17 = .ok (.getfield 19, 3) := by decide +kernel
theorem dX5_losesOf_20 : decode cX5_losesOf 20 = .ok (.iload_n 1, 1) := by decide +kernel
theorem dX5_losesOf_21 : decode cX5_losesOf 21 = .ok (.iaload, 1) := by decide +kernel
theorem dX5_losesOf_22 : decode cX5_losesOf 22 = .ok (.iconst 1, 1) := by decide +kernel
theorem dX5_losesOf_23 : decode cX5_losesOf 23 = .ok (.if_icmp .ne 12, 3) := by decide +kernel
theorem dX5_losesOf_26 : decode cX5_losesOf 26 = .ok (.aload_n 0, 1) := by decide +kernel
theorem dX5_losesOf_27 : decode cX5_losesOf 27 = .ok (.getfield 90, 3) := by decide +kernel
theorem dX5_losesOf_30 : decode cX5_losesOf 30 = .ok (.iconst 1, 1) := by decide +kernel
theorem dX5_losesOf_31 : decode cX5_losesOf 31 = .ok (.iadd, 1) := by decide +kernel
theorem dX5_losesOf_32 : decode cX5_losesOf 32 = .ok (.goto 9, 3) := by decide +kernel
theorem dX5_losesOf_35 : decode cX5_losesOf 35 = .ok (.aload_n 0, 1) := by decide +kernel
theorem dX5_losesOf_36 : decode cX5_losesOf 36 = .ok (.getfield 90, 3) := by decide +kernel
theorem dX5_losesOf_39 : decode cX5_losesOf 39 = .ok (.iconst 2, 1) := by decide +kernel
theorem dX5_losesOf_40 : decode cX5_losesOf 40 = .ok (.idiv, 1) := by decide +kernel
theorem dX5_losesOf_41 : decode cX5_losesOf 41 = .ok (.ireturn, 1) := by decide +kernel
theorem dX5_wetBehind_0 : decode cX5_wetBehind 0 = .ok (.aload_n 0, 1) := by decide +kernel
theorem dX5_wetBehind_1 : decode cX5_wetBehind 1 = .ok (.getfield 22, 3) := by decide +kernel
theorem dX5_wetBehind_4 : decode cX5_wetBehind 4 = .ok (.iload_n 1, 1) := by decide +kernel
theorem dX5_wetBehind_5 : decode cX5_wetBehind 5 = .ok (.iaload, 1) := by decide +kernel
theorem dX5_wetBehind_6 : decode cX5_wetBehind 6 = .ok (.iload_n 2, 1) := by decide +kernel
theorem dX5_wetBehind_7 : decode cX5_wetBehind 7 = .ok (.aload_n 0, 1) := by decide +kernel
theorem dX5_wetBehind_8 : decode cX5_wetBehind 8 = .ok (.iload_n 1, 1) := by decide +kernel
theorem dX5_wetBehind_9 : decode cX5_wetBehind 9 = .ok (.invokevirtual 113, 3) := by decide +kernel
theorem dX5_wetBehind_12 : decode cX5_wetBehind 12 = .ok (.imul, 1) := by decide +kernel
theorem dX5_wetBehind_13 : decode cX5_wetBehind 13 = .ok (.isub, 1) := by decide +kernel
theorem dX5_wetBehind_14 : decode cX5_wetBehind 14 = .ok (.istore_n 3, 1) := by decide +kernel
theorem dX5_wetBehind_15 : decode cX5_wetBehind 15 = .ok (.iload_n 3, 1) := by decide +kernel
theorem dX5_wetBehind_16 : decode cX5_wetBehind 16 = .ok (.ifCond .le 7, 3) := by decide +kernel
theorem dX5_wetBehind_19 : decode cX5_wetBehind 19 = .ok (.iload_n 3, 1) := by decide +kernel
theorem dX5_wetBehind_20 : decode cX5_wetBehind 20 = .ok (.goto 4, 3) := by decide +kernel
theorem dX5_wetBehind_23 : decode cX5_wetBehind 23 = .ok (.iconst 0, 1) := by decide +kernel
theorem dX5_wetBehind_24 : decode cX5_wetBehind 24 = .ok (.ireturn, 1) := by decide +kernel
theorem dX5_crackedBehind_0 : decode cX5_crackedBehind 0 = .ok (.iconst 0, 1) := by decide +kernel
theorem dX5_crackedBehind_1 : decode cX5_crackedBehind 1 = .ok (.istore_n 2, 1) := by decide +kernel
theorem dX5_crackedBehind_2 : decode cX5_crackedBehind 2 = .ok (.iconst 0, 1) := by decide +kernel
theorem dX5_crackedBehind_3 : decode cX5_crackedBehind 3 = .ok (.istore_n 3, 1) := by decide +kernel
theorem dX5_crackedBehind_4 : decode cX5_crackedBehind 4 = .ok (.iload_n 3, 1) := by decide +kernel
theorem dX5_crackedBehind_5 : decode cX5_crackedBehind 5 = .ok (.aload_n 0, 1) := by decide +kernel
theorem dX5_crackedBehind_6 : decode cX5_crackedBehind 6 = .ok (.invokevirtual 59, 3) := by decide +kernel
theorem dX5_crackedBehind_9 : decode cX5_crackedBehind 9 = .ok (.if_icmp .ge 28, 3) := by decide +kernel
theorem dX5_crackedBehind_12 : decode cX5_crackedBehind 12 = .ok (.iload_n 2, 1) := by decide +kernel
theorem dX5_crackedBehind_13 : decode cX5_crackedBehind 13 = .ok (.aload_n 0, 1) := by decide +kernel
theorem dX5_crackedBehind_14 : decode cX5_crackedBehind 14 = .ok (.iload_n 3, 1) := by decide +kernel
theorem dX5_crackedBehind_15 : decode cX5_crackedBehind 15 = .ok (.iload_n 1, 1) := by decide +kernel
theorem dX5_crackedBehind_16 : decode cX5_crackedBehind 16 = .ok (.invokevirtual 116, 3) := by decide +kernel
theorem dX5_crackedBehind_19 : decode cX5_crackedBehind 19 = .ok (.ifCond .ne 9, 3) := by decide +kernel
theorem dX5_crackedBehind_22 : decode cX5_crackedBehind 22 = .ok (.iconst 1, 1) := by decide +kernel
theorem dX5_crackedBehind_23 : decode cX5_crackedBehind 23 = .ok (.iload_n 3, 1) := by decide +kernel
theorem dX5_crackedBehind_24 : decode cX5_crackedBehind 24 = .ok (.ishl, 1) := by decide +kernel
theorem dX5_crackedBehind_25 : decode cX5_crackedBehind 25 = .ok (.goto 4, 3) := by decide +kernel
theorem dX5_crackedBehind_28 : decode cX5_crackedBehind 28 = .ok (.iconst 0, 1) := by decide +kernel
theorem dX5_crackedBehind_29 : decode cX5_crackedBehind 29 = .ok (.ior, 1) := by decide +kernel
theorem dX5_crackedBehind_30 : decode cX5_crackedBehind 30 = .ok (.istore_n 2, 1) := by decide +kernel
theorem dX5_crackedBehind_31 : decode cX5_crackedBehind 31 = .ok (.iinc 3 1, 3) := by decide +kernel
theorem dX5_crackedBehind_34 : decode cX5_crackedBehind 34 = .ok (.goto (-30), 3) := by decide +kernel
theorem dX5_crackedBehind_37 : decode cX5_crackedBehind 37 = .ok (.iload_n 2, 1) := by decide +kernel
theorem dX5_crackedBehind_38 : decode cX5_crackedBehind 38 = .ok (.ireturn, 1) := by decide +kernel
theorem dX5_besides_0 : decode cX5_besides 0 = .ok (.iload_n 1, 1) := by decide +kernel
theorem dX5_besides_1 : decode cX5_besides 1 = .ok (.aload_n 0, 1) := by decide +kernel
theorem dX5_besides_2 : decode cX5_besides 2 = .ok (.getfield 53, 3) := by decide +kernel
theorem dX5_besides_5 : decode cX5_besides 5 = .ok (.irem, 1) := by decide +kernel
theorem dX5_besides_6 : decode cX5_besides 6 = .ok (.ifCond .le 11, 3) := by decide +kernel
theorem dX5_besides_9 : decode cX5_besides 9 = .ok (.iconst 1, 1) := by decide +kernel
theorem dX5_besides_10 : decode cX5_besides 10 = .ok (.iload_n 1, 1) := by decide +kernel
theorem dX5_besides_11 : decode cX5_besides 11 = .ok (.iconst 1, 1) := by decide +kernel
theorem dX5_besides_12 : decode cX5_besides 12 = .ok (.isub, 1) := by decide +kernel
theorem dX5_besides_13 : decode cX5_besides 13 = .ok (.ishl, 1) := by decide +kernel
theorem dX5_besides_14 : decode cX5_besides 14 = .ok (.goto 4, 3) := by decide +kernel
theorem dX5_besides_17 : decode cX5_besides 17 = .ok (.iconst 0, 1) := by decide +kernel
theorem dX5_besides_18 : decode cX5_besides 18 = .ok (.istore_n 2, 1) := by decide +kernel
theorem dX5_besides_19 : decode cX5_besides 19 = .ok (.iload_n 2, 1) := by decide +kernel
theorem dX5_besides_20 : decode cX5_besides 20 = .ok (.iload_n 1, 1) := by decide +kernel
theorem dX5_besides_21 : decode cX5_besides 21 = .ok (.aload_n 0, 1) := by decide +kernel
theorem dX5_besides_22 : decode cX5_besides 22 = .ok (.getfield 53, 3) := by decide +kernel
theorem dX5_besides_25 : decode cX5_besides 25 = .ok (.irem, 1) := by decide +kernel
theorem dX5_besides_26 : decode cX5_besides 26 = .ok (.aload_n 0, 1) := by decide +kernel
theorem dX5_besides_27 : decode cX5_besides 27 = .ok (.getfield 53, 3) := by decide +kernel
theorem dX5_besides_30 : decode cX5_besides 30 = .ok (.iconst 1, 1) := by decide +kernel
theorem dX5_besides_31 : decode cX5_besides 31 = .ok (.isub, 1) := by decide +kernel
theorem dX5_besides_32 : decode cX5_besides 32 = .ok (.if_icmp .ge 11, 3) := by decide +kernel
theorem dX5_besides_35 : decode cX5_besides 35 = .ok (.iconst 1, 1) := by decide +kernel
theorem dX5_besides_36 : decode cX5_besides 36 = .ok (.iload_n 1, 1) := by decide +kernel
theorem dX5_besides_37 : decode cX5_besides 37 = .ok (.iconst 1, 1) := by decide +kernel
theorem dX5_besides_38 : decode cX5_besides 38 = .ok (.iadd, 1) := by decide +kernel
theorem dX5_besides_39 : decode cX5_besides 39 = .ok (.ishl, 1) := by decide +kernel
theorem dX5_besides_40 : decode cX5_besides 40 = .ok (.goto 4, 3) := by decide +kernel
theorem dX5_besides_43 : decode cX5_besides 43 = .ok (.iconst 0, 1) := by decide +kernel
theorem dX5_besides_44 : decode cX5_besides 44 = .ok (.ior, 1) := by decide +kernel
theorem dX5_besides_45 : decode cX5_besides 45 = .ok (.istore_n 2, 1) := by decide +kernel
theorem dX5_besides_46 : decode cX5_besides 46 = .ok (.iload_n 2, 1) := by decide +kernel
theorem dX5_besides_47 : decode cX5_besides 47 = .ok (.iload_n 1, 1) := by decide +kernel
theorem dX5_besides_48 : decode cX5_besides 48 = .ok (.aload_n 0, 1) := by decide +kernel
theorem dX5_besides_49 : decode cX5_besides 49 = .ok (.getfield 53, 3) := by decide +kernel
theorem dX5_besides_52 : decode cX5_besides 52 = .ok (.if_icmp .lt 14, 3) := by decide +kernel
theorem dX5_besides_55 : decode cX5_besides 55 = .ok (.iconst 1, 1) := by decide +kernel
theorem dX5_besides_56 : decode cX5_besides 56 = .ok (.iload_n 1, 1) := by decide +kernel
theorem dX5_besides_57 : decode cX5_besides 57 = .ok (.aload_n 0, 1) := by decide +kernel
theorem dX5_besides_58 : decode cX5_besides 58 = .ok (.getfield 53, 3) := by decide +kernel
theorem dX5_besides_61 : decode cX5_besides 61 = .ok (.isub, 1) := by decide +kernel
theorem dX5_besides_62 : decode cX5_besides 62 = .ok (.ishl, 1) := by decide +kernel
theorem dX5_besides_63 : decode cX5_besides 63 = .ok (.goto 4, 3) := by decide +kernel
theorem dX5_besides_66 : decode cX5_besides 66 = .ok (.iconst 0, 1) := by decide +kernel
theorem dX5_besides_67 : decode cX5_besides 67 = .ok (.ior, 1) := by decide +kernel
theorem dX5_besides_68 : decode cX5_besides 68 = .ok (.istore_n 2, 1) := by decide +kernel
theorem dX5_besides_69 : decode cX5_besides 69 = .ok (.iload_n 2, 1) := by decide +kernel
theorem dX5_besides_70 : decode cX5_besides 70 = .ok (.iload_n 1, 1) := by decide +kernel
theorem dX5_besides_71 : decode cX5_besides 71 = .ok (.aload_n 0, 1) := by decide +kernel
theorem dX5_besides_72 : decode cX5_besides 72 = .ok (.getfield 53, 3) := by decide +kernel
theorem dX5_besides_75 : decode cX5_besides 75 = .ok (.iadd, 1) := by decide +kernel
theorem dX5_besides_76 : decode cX5_besides 76 = .ok (.aload_n 0, 1) := by decide +kernel
theorem dX5_besides_77 : decode cX5_besides 77 = .ok (.invokevirtual 59, 3) := by decide +kernel
theorem dX5_besides_80 : decode cX5_besides 80 = .ok (.if_icmp .ge 14, 3) := by decide +kernel
theorem dX5_besides_83 : decode cX5_besides 83 = .ok (.iconst 1, 1) := by decide +kernel
theorem dX5_besides_84 : decode cX5_besides 84 = .ok (.iload_n 1, 1) := by decide +kernel
theorem dX5_besides_85 : decode cX5_besides 85 = .ok (.aload_n 0, 1) := by decide +kernel
theorem dX5_besides_86 : decode cX5_besides 86 = .ok (.getfield 53, 3) := by decide +kernel
theorem dX5_besides_89 : decode cX5_besides 89 = .ok (.iadd, 1) := by decide +kernel
theorem dX5_besides_90 : decode cX5_besides 90 = .ok (.ishl, 1) := by decide +kernel
theorem dX5_besides_91 : decode cX5_besides 91 = .ok (.goto 4, 3) := by decide +kernel
theorem dX5_besides_94 : decode cX5_besides 94 = .ok (.iconst 0, 1) := by decide +kernel
theorem dX5_besides_95 : decode cX5_besides 95 = .ok (.ior, 1) := by decide +kernel
theorem dX5_besides_96 : decode cX5_besides 96 = .ok (.ireturn, 1) := by decide +kernel
theorem dX5_spreadIn_0 : decode cX5_spreadIn 0 = .ok (.iload_n 1, 1) := by decide +kernel
theorem dX5_spreadIn_1 : decode cX5_spreadIn 1 = .ok (.iload_n 2, 1) := by decide +kernel
theorem dX5_spreadIn_2 : decode cX5_spreadIn 2 = .ok (.iand, 1) := by decide +kernel
theorem dX5_spreadIn_3 : decode cX5_spreadIn 3 = .ok (.istore_n 3, 1) := by decide +kernel
theorem dX5_spreadIn_4 : decode cX5_spreadIn 4 = .ok (.iconst 0, 1) := by decide +kernel
theorem dX5_spreadIn_5 : decode cX5_spreadIn 5 = .ok (.istore 4, 2) := by decide +kernel
theorem dX5_spreadIn_7 : decode cX5_spreadIn 7 = .ok (.iload_n 3, 1) := by decide +kernel
theorem dX5_spreadIn_8 : decode cX5_spreadIn 8 = .ok (.iload 4, 2) := by decide +kernel
theorem dX5_spreadIn_10 : decode cX5_spreadIn 10 = .ok (.if_icmp .eq 58, 3) := by decide +kernel
theorem dX5_spreadIn_13 : decode cX5_spreadIn 13 = .ok (.iload_n 3, 1) := by decide +kernel
theorem dX5_spreadIn_14 : decode cX5_spreadIn 14 = .ok (.istore 4, 2) := by decide +kernel
theorem dX5_spreadIn_16 : decode cX5_spreadIn 16 = .ok (.iconst 0, 1) := by decide +kernel
theorem dX5_spreadIn_17 : decode cX5_spreadIn 17 = .ok (.istore 5, 2) := by decide +kernel
theorem dX5_spreadIn_19 : decode cX5_spreadIn 19 = .ok (.iload 5, 2) := by decide +kernel
theorem dX5_spreadIn_21 : decode cX5_spreadIn 21 = .ok (.aload_n 0, 1) := by decide +kernel
theorem dX5_spreadIn_22 : decode cX5_spreadIn 22 = .ok (.invokevirtual 59, 3) := by decide +kernel
theorem dX5_spreadIn_25 : decode cX5_spreadIn 25 = .ok (.if_icmp .ge 40, 3) := by decide +kernel
theorem dX5_spreadIn_28 : decode cX5_spreadIn 28 = .ok (.iload_n 3, 1) := by decide +kernel
theorem dX5_spreadIn_29 : decode cX5_spreadIn 29 = .ok (.iload_n 1, 1) := by decide +kernel
theorem dX5_spreadIn_30 : decode cX5_spreadIn 30 = .ok (.iload 5, 2) := by decide +kernel
theorem dX5_spreadIn_32 : decode cX5_spreadIn 32 = .ok (.invokestatic 120, 3) := by decide +kernel
theorem dX5_spreadIn_35 : decode cX5_spreadIn 35 = .ok (.ifCond .eq 21, 3) := by decide +kernel
theorem dX5_spreadIn_38 : decode cX5_spreadIn 38 = .ok (.aload_n 0, 1) := by decide +kernel
theorem dX5_spreadIn_39 : decode cX5_spreadIn 39 = .ok (.iload 5, 2) := by decide +kernel
theorem dX5_spreadIn_41 : decode cX5_spreadIn 41 = .ok (.invokevirtual 123, 3) := by decide +kernel
theorem dX5_spreadIn_44 : decode cX5_spreadIn 44 = .ok (.iload_n 3, 1) := by decide +kernel
theorem dX5_spreadIn_45 : decode cX5_spreadIn 45 = .ok (.iand, 1) := by decide +kernel
theorem dX5_spreadIn_46 : decode cX5_spreadIn 46 = .ok (.ifCond .eq 10, 3) := by decide +kernel
theorem dX5_spreadIn_49 : decode cX5_spreadIn 49 = .ok (.iconst 1, 1) := by decide +kernel
theorem dX5_spreadIn_50 : decode cX5_spreadIn 50 = .ok (.iload 5, 2) := by decide +kernel
theorem dX5_spreadIn_52 : decode cX5_spreadIn 52 = .ok (.ishl, 1) := by decide +kernel
theorem dX5_spreadIn_53 : decode cX5_spreadIn 53 = .ok (.goto 4, 3) := by decide +kernel
theorem dX5_spreadIn_56 : decode cX5_spreadIn 56 = .ok (.iconst 0, 1) := by decide +kernel
theorem dX5_spreadIn_57 : decode cX5_spreadIn 57 = .ok (.ior, 1) := by decide +kernel
theorem dX5_spreadIn_58 : decode cX5_spreadIn 58 = .ok (.istore_n 3, 1) := by decide +kernel
theorem dX5_spreadIn_59 : decode cX5_spreadIn 59 = .ok (.iinc 5 1, 3) := by decide +kernel
theorem dX5_spreadIn_62 : decode cX5_spreadIn 62 = .ok (.goto (-43), 3) := by decide +kernel
theorem dX5_spreadIn_65 : decode cX5_spreadIn 65 = .ok (.goto (-58), 3) := by decide +kernel
theorem dX5_spreadIn_68 : decode cX5_spreadIn 68 = .ok (.iload_n 3, 1) := by decide +kernel
theorem dX5_spreadIn_69 : decode cX5_spreadIn 69 = .ok (.ireturn, 1) := by decide +kernel
theorem dX5_isOpen_0 : decode cX5_isOpen 0 = .ok (.iconst 1, 1) := by decide +kernel
theorem dX5_isOpen_1 : decode cX5_isOpen 1 = .ok (.aload_n 0, 1) := by decide +kernel
theorem dX5_isOpen_2 : decode cX5_isOpen 2 = .ok (.getfield 53, 3) := by decide +kernel
theorem dX5_isOpen_5 : decode cX5_isOpen 5 = .ok (.ishl, 1) := by decide +kernel
theorem dX5_isOpen_6 : decode cX5_isOpen 6 = .ok (.iconst 1, 1) := by decide +kernel
theorem dX5_isOpen_7 : decode cX5_isOpen 7 = .ok (.isub, 1) := by decide +kernel
theorem dX5_isOpen_8 : decode cX5_isOpen 8 = .ok (.istore_n 2, 1) := by decide +kernel
theorem dX5_isOpen_9 : decode cX5_isOpen 9 = .ok (.iload_n 2, 1) := by decide +kernel
theorem dX5_isOpen_10 : decode cX5_isOpen 10 = .ok (.aload_n 0, 1) := by decide +kernel
theorem dX5_isOpen_11 : decode cX5_isOpen 11 = .ok (.getfield 53, 3) := by decide +kernel
theorem dX5_isOpen_14 : decode cX5_isOpen 14 = .ok (.aload_n 0, 1) := by decide +kernel
theorem dX5_isOpen_15 : decode cX5_isOpen 15 = .ok (.getfield 56, 3) := by decide +kernel
theorem dX5_isOpen_18 : decode cX5_isOpen 18 = .ok (.iconst 1, 1) := by decide +kernel
theorem dX5_isOpen_19 : decode cX5_isOpen 19 = .ok (.isub, 1) := by decide +kernel
theorem dX5_isOpen_20 : decode cX5_isOpen 20 = .ok (.imul, 1) := by decide +kernel
theorem dX5_isOpen_21 : decode cX5_isOpen 21 = .ok (.ishl, 1) := by decide +kernel
theorem dX5_isOpen_22 : decode cX5_isOpen 22 = .ok (.istore_n 3, 1) := by decide +kernel
theorem dX5_isOpen_23 : decode cX5_isOpen 23 = .ok (.aload_n 0, 1) := by decide +kernel
theorem dX5_isOpen_24 : decode cX5_isOpen 24 = .ok (.iload_n 1, 1) := by decide +kernel
theorem dX5_isOpen_25 : decode cX5_isOpen 25 = .ok (.iload_n 2, 1) := by decide +kernel
theorem dX5_isOpen_26 : decode cX5_isOpen 26 = .ok (.invokevirtual 126, 3) := by decide +kernel
theorem dX5_isOpen_29 : decode cX5_isOpen 29 = .ok (.iload_n 3, 1) := by decide +kernel
theorem dX5_isOpen_30 : decode cX5_isOpen 30 = .ok (.iand, 1) := by decide +kernel
theorem dX5_isOpen_31 : decode cX5_isOpen 31 = .ok (.ifCond .eq 7, 3) := by decide +kernel
theorem dX5_isOpen_34 : decode cX5_isOpen 34 = .ok (.iconst 1, 1) := by decide +kernel
theorem dX5_isOpen_35 : decode cX5_isOpen 35 = .ok (.goto 4, 3) := by decide +kernel
theorem dX5_isOpen_38 : decode cX5_isOpen 38 = .ok (.iconst 0, 1) := by decide +kernel
theorem dX5_isOpen_39 : decode cX5_isOpen 39 = .ok (.ireturn, 1) := by decide +kernel
theorem dX5_pieceOf_0 : decode cX5_pieceOf 0 = .ok (.aload_n 0, 1) := by decide +kernel
theorem dX5_pieceOf_1 : decode cX5_pieceOf 1 = .ok (.iconst 0, 1) := by decide +kernel
theorem dX5_pieceOf_2 : decode cX5_pieceOf 2 = .ok (.invokevirtual 129, 3) := by decide +kernel
theorem dX5_pieceOf_5 : decode cX5_pieceOf 5 = .ok (.istore_n 2, 1) := by decide +kernel
theorem dX5_pieceOf_6 : decode cX5_pieceOf 6 = .ok (.iconst 1, 1) := by decide +kernel
theorem dX5_pieceOf_7 : decode cX5_pieceOf 7 = .ok (.aload_n 0, 1) := by decide +kernel
theorem dX5_pieceOf_8 : decode cX5_pieceOf 8 = .ok (.invokevirtual 59, 3) := by decide +kernel
theorem dX5_pieceOf_11 : decode cX5_pieceOf 11 = .ok (.ishl, 1) := by decide +kernel
theorem dX5_pieceOf_12 : decode cX5_pieceOf 12 = .ok (.iconst 1, 1) := by decide +kernel
theorem dX5_pieceOf_13 : decode cX5_pieceOf 13 = .ok (.isub, 1) := by decide +kernel
theorem dX5_pieceOf_14 : decode cX5_pieceOf 14 = .ok (.iload_n 2, 1) := by decide +kernel
theorem dX5_pieceOf_15 : decode cX5_pieceOf 15 = .ok (.iconst (-1), 1) := by decide +kernel
theorem dX5_pieceOf_16 : decode cX5_pieceOf 16 = .ok (.ixor, 1) := by decide +kernel
theorem dX5_pieceOf_17 : decode cX5_pieceOf 17 = .ok (.iand, 1) := by decide +kernel
theorem dX5_pieceOf_18 : decode cX5_pieceOf 18 = .ok (.istore_n 3, 1) := by decide +kernel
theorem dX5_pieceOf_19 : decode cX5_pieceOf 19 = .ok (.aload_n 0, 1) := by decide +kernel
theorem dX5_pieceOf_20 : decode cX5_pieceOf 20 = .ok (.iload_n 3, 1) := by decide +kernel
theorem dX5_pieceOf_21 : decode cX5_pieceOf 21 = .ok (.iconst 1, 1) := by decide +kernel
theorem dX5_pieceOf_22 : decode cX5_pieceOf 22 = .ok (.iload_n 1, 1) := by decide +kernel
theorem dX5_pieceOf_23 : decode cX5_pieceOf 23 = .ok (.ishl, 1) := by decide +kernel
theorem dX5_pieceOf_24 : decode cX5_pieceOf 24 = .ok (.invokevirtual 126, 3) := by decide +kernel
theorem dX5_pieceOf_27 : decode cX5_pieceOf 27 = .ok (.ireturn, 1) := by decide +kernel
theorem dX5_ofCell_0 : decode cX5_ofCell 0 = .ok (.aload_n 0, 1) := by decide +kernel
theorem dX5_ofCell_1 : decode cX5_ofCell 1 = .ok (.iload_n 1, 1) := by decide +kernel
theorem dX5_ofCell_2 : decode cX5_ofCell 2 = .ok (.invokevirtual 132, 3) := by decide +kernel
theorem dX5_ofCell_5 : decode cX5_ofCell 5 = .ok (.ifCond .ne 5, 3) := by decide +kernel
theorem dX5_ofCell_8 : decode cX5_ofCell 8 = .ok (.iconst (-1), 1) := by decide +kernel
theorem dX5_ofCell_9 : decode cX5_ofCell 9 = .ok (.ireturn, 1) := by decide +kernel
theorem dX5_ofCell_10 : decode cX5_ofCell 10 = .ok (.iload_n 2, 1) := by decide +kernel
theorem dX5_ofCell_11 : decode cX5_ofCell 11 = .ok (.tableswitch 77 0 4 #[33, 40, 47, 53, 68], 33) := by decide +kernel
theorem dX5_ofCell_44 : decode cX5_ofCell 44 = .ok (.aload_n 0, 1) := by decide +kernel
theorem dX5_ofCell_45 : decode cX5_ofCell 45 = .ok (.getfield 19, 3) := by decide +kernel
theorem dX5_ofCell_48 : decode cX5_ofCell 48 = .ok (.iload_n 1, 1) := by decide +kernel
theorem dX5_ofCell_49 : decode cX5_ofCell 49 = .ok (.iaload, 1) := by decide +kernel
theorem dX5_ofCell_50 : decode cX5_ofCell 50 = .ok (.ireturn, 1) := by decide +kernel
theorem dX5_ofCell_51 : decode cX5_ofCell 51 = .ok (.aload_n 0, 1) := by decide +kernel
theorem dX5_ofCell_52 : decode cX5_ofCell 52 = .ok (.getfield 22, 3) := by decide +kernel
theorem dX5_ofCell_55 : decode cX5_ofCell 55 = .ok (.iload_n 1, 1) := by decide +kernel
theorem dX5_ofCell_56 : decode cX5_ofCell 56 = .ok (.iaload, 1) := by decide +kernel
theorem dX5_ofCell_57 : decode cX5_ofCell 57 = .ok (.ireturn, 1) := by decide +kernel
theorem dX5_ofCell_58 : decode cX5_ofCell 58 = .ok (.aload_n 0, 1) := by decide +kernel
theorem dX5_ofCell_59 : decode cX5_ofCell 59 = .ok (.iload_n 1, 1) := by decide +kernel
theorem dX5_ofCell_60 : decode cX5_ofCell 60 = .ok (.invokevirtual 113, 3) := by decide +kernel
theorem dX5_ofCell_63 : decode cX5_ofCell 63 = .ok (.ireturn, 1) := by decide +kernel
theorem dX5_ofCell_64 : decode cX5_ofCell 64 = .ok (.aload_n 0, 1) := by decide +kernel
theorem dX5_ofCell_65 : decode cX5_ofCell 65 = .ok (.getfield 22, 3) := by decide +kernel
theorem dX5_ofCell_68 : decode cX5_ofCell 68 = .ok (.iload_n 1, 1) := by decide +kernel
theorem dX5_ofCell_69 : decode cX5_ofCell 69 = .ok (.iaload, 1) := by decide +kernel
theorem dX5_ofCell_70 : decode cX5_ofCell 70 = .ok (.ifCond .ne 7, 3) := by decide +kernel
theorem dX5_ofCell_73 : decode cX5_ofCell 73 = .ok (.iconst 1, 1) := by decide +kernel
theorem dX5_ofCell_74 : decode cX5_ofCell 74 = .ok (.goto 4, 3) := by decide +kernel
theorem dX5_ofCell_77 : decode cX5_ofCell 77 = .ok (.iconst 0, 1) := by decide +kernel
theorem dX5_ofCell_78 : decode cX5_ofCell 78 = .ok (.ireturn, 1) := by decide +kernel
theorem dX5_ofCell_79 : decode cX5_ofCell 79 = .ok (.aload_n 0, 1) := by decide +kernel
theorem dX5_ofCell_80 : decode cX5_ofCell 80 = .ok (.iload_n 1, 1) := by decide +kernel
theorem dX5_ofCell_81 : decode cX5_ofCell 81 = .ok (.invokevirtual 135, 3) := by decide +kernel
theorem dX5_ofCell_84 : decode cX5_ofCell 84 = .ok (.invokestatic 138, 3) := by decide +kernel
theorem dX5_ofCell_87 : decode cX5_ofCell 87 = .ok (.ireturn, 1) := by decide +kernel
theorem dX5_ofCell_88 : decode cX5_ofCell 88 = .ok (.bipush (-2), 2) := by decide +kernel
theorem dX5_ofCell_90 : decode cX5_ofCell 90 = .ok (.ireturn, 1) := by decide +kernel
theorem dX5_shine_0 : decode cX5_shine 0 = .ok (.iload_n 1, 1) := by decide +kernel
theorem dX5_shine_1 : decode cX5_shine 1 = .ok (.invokestatic 141, 3) := by decide +kernel
theorem dX5_shine_4 : decode cX5_shine 4 = .ok (.ifCond .ne 6, 3) := by decide +kernel
theorem dX5_shine_7 : decode cX5_shine 7 = .ok (.bipush (-2), 2) := by decide +kernel
theorem dX5_shine_9 : decode cX5_shine 9 = .ok (.ireturn, 1) := by decide +kernel
theorem dX5_shine_10 : decode cX5_shine 10 = .ok (.aload_n 0, 1) := by decide +kernel
theorem dX5_shine_11 : decode cX5_shine 11 = .ok (.getfield 53, 3) := by decide +kernel
theorem dX5_shine_14 : decode cX5_shine 14 = .ok (.ifCond .ne 6, 3) := by decide +kernel
theorem dX5_shine_17 : decode cX5_shine 17 = .ok (.bipush (-3), 2) := by decide +kernel
theorem dX5_shine_19 : decode cX5_shine 19 = .ok (.ireturn, 1) := by decide +kernel
theorem dX5_shine_20 : decode cX5_shine 20 = .ok (.aload_n 0, 1) := by decide +kernel
theorem dX5_shine_21 : decode cX5_shine 21 = .ok (.getfield 90, 3) := by decide +kernel
theorem dX5_shine_24 : decode cX5_shine 24 = .ok (.istore_n 2, 1) := by decide +kernel
theorem dX5_shine_25 : decode cX5_shine 25 = .ok (.aload_n 0, 1) := by decide +kernel
theorem dX5_shine_26 : decode cX5_shine 26 = .ok (.iload_n 1, 1) := by decide +kernel
theorem dX5_shine_27 : decode cX5_shine 27 = .ok (.putfield 90, 3) := by decide +kernel
theorem dX5_shine_30 : decode cX5_shine 30 = .ok (.iload_n 2, 1) := by decide +kernel
theorem dX5_shine_31 : decode cX5_shine 31 = .ok (.ireturn, 1) := by decide +kernel
theorem dX5_silt_0 : decode cX5_silt 0 = .ok (.aload_n 0, 1) := by decide +kernel
theorem dX5_silt_1 : decode cX5_silt 1 = .ok (.iload_n 1, 1) := by decide +kernel
theorem dX5_silt_2 : decode cX5_silt 2 = .ok (.invokevirtual 132, 3) := by decide +kernel
theorem dX5_silt_5 : decode cX5_silt 5 = .ok (.ifCond .ne 5, 3) := by decide +kernel
theorem dX5_silt_8 : decode cX5_silt 8 = .ok (.iconst (-1), 1) := by decide +kernel
theorem dX5_silt_9 : decode cX5_silt 9 = .ok (.ireturn, 1) := by decide +kernel
theorem dX5_silt_10 : decode cX5_silt 10 = .ok (.iload_n 2, 1) := by decide +kernel
theorem dX5_silt_11 : decode cX5_silt 11 = .ok (.iconst 0, 1) := by decide +kernel
theorem dX5_silt_12 : decode cX5_silt 12 = .ok (.iconst 2, 1) := by decide +kernel
theorem dX5_silt_13 : decode cX5_silt 13 = .ok (.invokestatic 49, 3) := by decide +kernel
theorem dX5_silt_16 : decode cX5_silt 16 = .ok (.ifCond .ne 6, 3) := by decide +kernel
theorem dX5_silt_19 : decode cX5_silt 19 = .ok (.bipush (-2), 2) := by decide +kernel
theorem dX5_silt_21 : decode cX5_silt 21 = .ok (.ireturn, 1) := by decide +kernel
theorem dX5_silt_22 : decode cX5_silt 22 = .ok (.aload_n 0, 1) := by decide +kernel
theorem dX5_silt_23 : decode cX5_silt 23 = .ok (.getfield 19, 3) := by decide +kernel
theorem dX5_silt_26 : decode cX5_silt 26 = .ok (.iload_n 1, 1) := by decide +kernel
theorem dX5_silt_27 : decode cX5_silt 27 = .ok (.iaload, 1) := by decide +kernel
theorem dX5_silt_28 : decode cX5_silt 28 = .ok (.istore_n 3, 1) := by decide +kernel
theorem dX5_silt_29 : decode cX5_silt 29 = .ok (.aload_n 0, 1) := by decide +kernel
theorem dX5_silt_30 : decode cX5_silt 30 = .ok (.getfield 19, 3) := by decide +kernel
theorem dX5_silt_33 : decode cX5_silt 33 = .ok (.iload_n 1, 1) := by decide +kernel
theorem dX5_silt_34 : decode cX5_silt 34 = .ok (.iload_n 2, 1) := by decide +kernel
theorem dX5_silt_35 : decode cX5_silt 35 = .ok (.iastore, 1) := by decide +kernel
theorem dX5_silt_36 : decode cX5_silt 36 = .ok (.iload_n 3, 1) := by decide +kernel
theorem dX5_silt_37 : decode cX5_silt 37 = .ok (.ireturn, 1) := by decide +kernel
theorem dX5_dryBy_0 : decode cX5_dryBy 0 = .ok (.iconst 0, 1) := by decide +kernel
theorem dX5_dryBy_1 : decode cX5_dryBy 1 = .ok (.istore_n 2, 1) := by decide +kernel
theorem dX5_dryBy_2 : decode cX5_dryBy 2 = .ok (.iload_n 2, 1) := by decide +kernel
theorem dX5_dryBy_3 : decode cX5_dryBy 3 = .ok (.aload_n 0, 1) := by decide +kernel
theorem dX5_dryBy_4 : decode cX5_dryBy 4 = .ok (.invokevirtual 59, 3) := by decide +kernel
theorem dX5_dryBy_7 : decode cX5_dryBy 7 = .ok (.if_icmp .ge 21, 3) := by decide +kernel
theorem dX5_dryBy_10 : decode cX5_dryBy 10 = .ok (.aload_n 0, 1) := by decide +kernel
theorem dX5_dryBy_11 : decode cX5_dryBy 11 = .ok (.getfield 22, 3) := by decide +kernel
theorem dX5_dryBy_14 : decode cX5_dryBy 14 = .ok (.iload_n 2, 1) := by decide +kernel
theorem dX5_dryBy_15 : decode cX5_dryBy 15 = .ok (.aload_n 0, 1) := by decide +kernel
theorem dX5_dryBy_16 : decode cX5_dryBy 16 = .ok (.iload_n 2, 1) := by decide +kernel
theorem dX5_dryBy_17 : decode cX5_dryBy 17 = .ok (.iload_n 1, 1) := by decide +kernel
theorem dX5_dryBy_18 : decode cX5_dryBy 18 = .ok (.invokevirtual 116, 3) := by decide +kernel
theorem dX5_dryBy_21 : decode cX5_dryBy 21 = .ok (.iastore, 1) := by decide +kernel
theorem dX5_dryBy_22 : decode cX5_dryBy 22 = .ok (.iinc 2 1, 3) := by decide +kernel
theorem dX5_dryBy_25 : decode cX5_dryBy 25 = .ok (.goto (-23), 3) := by decide +kernel
theorem dX5_dryBy_28 : decode cX5_dryBy 28 = .ok (.return_, 1) := by decide +kernel
theorem dX5_dry_0 : decode cX5_dry 0 = .ok (.iload_n 1, 1) := by decide +kernel
theorem dX5_dry_1 : decode cX5_dry 1 = .ok (.iconst 1, 1) := by decide +kernel
theorem dX5_dry_2 : decode cX5_dry 2 = .ok (.bipush 30, 2) := by decide +kernel
theorem dX5_dry_4 : decode cX5_dry 4 = .ok (.invokestatic 49, 3) := by decide +kernel
theorem dX5_dry_7 : decode cX5_dry 7 = .ok (.ifCond .ne 6, 3) := by decide +kernel
theorem dX5_dry_10 : decode cX5_dry 10 = .ok (.bipush (-2), 2) := by decide +kernel
theorem dX5_dry_12 : decode cX5_dry 12 = .ok (.ireturn, 1) := by decide +kernel
theorem dX5_dry_13 : decode cX5_dry 13 = .ok (.aload_n 0, 1) := by decide +kernel
theorem dX5_dry_14 : decode cX5_dry 14 = .ok (.getfield 53, 3) := by decide +kernel
theorem dX5_dry_17 : decode cX5_dry 17 = .ok (.ifCond .ne 6, 3) := by decide +kernel
theorem dX5_dry_20 : decode cX5_dry 20 = .ok (.bipush (-3), 2) := by decide +kernel
theorem dX5_dry_22 : decode cX5_dry 22 = .ok (.ireturn, 1) := by decide +kernel
theorem dX5_dry_23 : decode cX5_dry 23 = .ok (.aload_n 0, 1) := by decide +kernel
theorem dX5_dry_24 : decode cX5_dry 24 = .ok (.iconst 0, 1) := by decide +kernel
theorem dX5_dry_25 : decode cX5_dry 25 = .ok (.invokevirtual 129, 3) := by decide +kernel
theorem dX5_dry_28 : decode cX5_dry 28 = .ok (.invokestatic 138, 3) := by decide +kernel
theorem dX5_dry_31 : decode cX5_dry 31 = .ok (.istore_n 2, 1) := by decide +kernel
theorem dX5_dry_32 : decode cX5_dry 32 = .ok (.aload_n 0, 1) := by decide +kernel
theorem dX5_dry_33 : decode cX5_dry 33 = .ok (.iload_n 1, 1) := by decide +kernel
theorem dX5_dry_34 : decode cX5_dry 34 = .ok (.invokevirtual 144, 3) := by decide +kernel
theorem dX5_dry_37 : decode cX5_dry 37 = .ok (.aload_n 0, 1) := by decide +kernel
theorem dX5_dry_38 : decode cX5_dry 38 = .ok (.dup, 1) := by decide +kernel
theorem dX5_dry_39 : decode cX5_dry 39 = .ok (.getfield 99, 3) := by decide +kernel
theorem dX5_dry_42 : decode cX5_dry 42 = .ok (.iload_n 1, 1) := by decide +kernel
theorem dX5_dry_43 : decode cX5_dry 43 = .ok (.iadd, 1) := by decide +kernel
theorem dX5_dry_44 : decode cX5_dry 44 = .ok (.putfield 99, 3) := by decide +kernel
theorem dX5_dry_47 : decode cX5_dry 47 = .ok (.aload_n 0, 1) := by decide +kernel
theorem dX5_dry_48 : decode cX5_dry 48 = .ok (.iconst 0, 1) := by decide +kernel
theorem dX5_dry_49 : decode cX5_dry 49 = .ok (.invokevirtual 129, 3) := by decide +kernel
theorem dX5_dry_52 : decode cX5_dry 52 = .ok (.invokestatic 138, 3) := by decide +kernel
theorem dX5_dry_55 : decode cX5_dry 55 = .ok (.iload_n 2, 1) := by decide +kernel
theorem dX5_dry_56 : decode cX5_dry 56 = .ok (.isub, 1) := by decide +kernel
theorem dX5_dry_57 : decode cX5_dry 57 = .ok (.ireturn, 1) := by decide +kernel
theorem dX5_pouredOn_0 : decode cX5_pouredOn 0 = .ok (.aload_n 0, 1) := by decide +kernel
theorem dX5_pouredOn_1 : decode cX5_pouredOn 1 = .ok (.getfield 22, 3) := by decide +kernel
theorem dX5_pouredOn_4 : decode cX5_pouredOn 4 = .ok (.iload_n 1, 1) := by decide +kernel
theorem dX5_pouredOn_5 : decode cX5_pouredOn 5 = .ok (.aload_n 0, 1) := by decide +kernel
theorem dX5_pouredOn_6 : decode cX5_pouredOn 6 = .ok (.getfield 22, 3) := by decide +kernel
theorem dX5_pouredOn_9 : decode cX5_pouredOn 9 = .ok (.iload_n 1, 1) := by decide +kernel
theorem dX5_pouredOn_10 : decode cX5_pouredOn 10 = .ok (.iaload, 1) := by decide +kernel
theorem dX5_pouredOn_11 : decode cX5_pouredOn 11 = .ok (.iload_n 2, 1) := by decide +kernel
theorem dX5_pouredOn_12 : decode cX5_pouredOn 12 = .ok (.iadd, 1) := by decide +kernel
theorem dX5_pouredOn_13 : decode cX5_pouredOn 13 = .ok (.bipush 9, 2) := by decide +kernel
theorem dX5_pouredOn_15 : decode cX5_pouredOn 15 = .ok (.if_icmp .le 8, 3) := by decide +kernel
theorem dX5_pouredOn_18 : decode cX5_pouredOn 18 = .ok (.bipush 9, 2) := by decide +kernel
theorem dX5_pouredOn_20 : decode cX5_pouredOn 20 = .ok (.goto 11, 3) := by decide +kernel
theorem dX5_pouredOn_23 : decode cX5_pouredOn 23 = .ok (.aload_n 0, 1) := by decide +kernel
theorem dX5_pouredOn_24 : decode cX5_pouredOn 24 = .ok (.getfield 22, 3) := by decide +kernel
theorem dX5_pouredOn_27 : decode cX5_pouredOn 27 = .ok (.iload_n 1, 1) := by decide +kernel
theorem dX5_pouredOn_28 : decode cX5_pouredOn 28 = .ok (.iaload, 1) := by decide +kernel
theorem dX5_pouredOn_29 : decode cX5_pouredOn 29 = .ok (.iload_n 2, 1) := by decide +kernel
theorem dX5_pouredOn_30 : decode cX5_pouredOn 30 = .ok (.iadd, 1) := by decide +kernel
theorem dX5_pouredOn_31 : decode cX5_pouredOn 31 = .ok (.iastore, 1) := by decide +kernel
theorem dX5_pouredOn_32 : decode cX5_pouredOn 32 = .ok (.aload_n 0, 1) := by decide +kernel
theorem dX5_pouredOn_33 : decode cX5_pouredOn 33 = .ok (.getfield 22, 3) := by decide +kernel
theorem dX5_pouredOn_36 : decode cX5_pouredOn 36 = .ok (.iload_n 1, 1) := by decide +kernel
theorem dX5_pouredOn_37 : decode cX5_pouredOn 37 = .ok (.iaload, 1) := by decide +kernel
theorem dX5_pouredOn_38 : decode cX5_pouredOn 38 = .ok (.ireturn, 1) := by decide +kernel
theorem dX5_pour_0 : decode cX5_pour 0 = .ok (.aload_n 0, 1) := by decide +kernel
theorem dX5_pour_1 : decode cX5_pour 1 = .ok (.iload_n 1, 1) := by decide +kernel
theorem dX5_pour_2 : decode cX5_pour 2 = .ok (.invokevirtual 132, 3) := by decide +kernel
theorem dX5_pour_5 : decode cX5_pour 5 = .ok (.ifCond .ne 5, 3) := by decide +kernel
theorem dX5_pour_8 : decode cX5_pour 8 = .ok (.iconst (-1), 1) := by decide +kernel
theorem dX5_pour_9 : decode cX5_pour 9 = .ok (.ireturn, 1) := by decide +kernel
theorem dX5_pour_10 : decode cX5_pour 10 = .ok (.iload_n 2, 1) := by decide +kernel
theorem dX5_pour_11 : decode cX5_pour 11 = .ok (.iconst 1, 1) := by decide +kernel
theorem dX5_pour_12 : decode cX5_pour 12 = .ok (.bipush 9, 2) := by decide +kernel
theorem dX5_pour_14 : decode cX5_pour 14 = .ok (.invokestatic 49, 3) := by decide +kernel
theorem dX5_pour_17 : decode cX5_pour 17 = .ok (.ifCond .ne 6, 3) := by decide +kernel
theorem dX5_pour_20 : decode cX5_pour 20 = .ok (.bipush (-2), 2) := by decide +kernel
theorem dX5_pour_22 : decode cX5_pour 22 = .ok (.ireturn, 1) := by decide +kernel
theorem dX5_pour_23 : decode cX5_pour 23 = .ok (.aload_n 0, 1) := by decide +kernel
theorem dX5_pour_24 : decode cX5_pour 24 = .ok (.getfield 22, 3) := by decide +kernel
theorem dX5_pour_27 : decode cX5_pour 27 = .ok (.iload_n 1, 1) := by decide +kernel
theorem dX5_pour_28 : decode cX5_pour 28 = .ok (.iaload, 1) := by decide +kernel
theorem dX5_pour_29 : decode cX5_pour 29 = .ok (.ifCond .ne 8, 3) := by decide +kernel
theorem dX5_pour_32 : decode cX5_pour 32 = .ok (.bipush (-3), 2) := by decide +kernel
theorem dX5_pour_34 : decode cX5_pour 34 = .ok (.goto 9, 3) := by decide +kernel
theorem dX5_pour_37 : decode cX5_pour 37 = .ok (.aload_n 0, 1) := by decide +kernel
theorem dX5_pour_38 : decode cX5_pour 38 = .ok (.iload_n 1, 1) := by decide +kernel
theorem dX5_pour_39 : decode cX5_pour 39 = .ok (.iload_n 2, 1) := by decide +kernel
theorem dX5_pour_40 : decode cX5_pour 40 = .ok (.invokevirtual 148, 3) := by decide +kernel
theorem dX5_pour_43 : decode cX5_pour 43 = .ok (.ireturn, 1) := by decide +kernel
theorem dX5_cracks_0 : decode cX5_cracks 0 = .ok (.iload_n 1, 1) := by decide +kernel
theorem dX5_cracks_1 : decode cX5_cracks 1 = .ok (.iconst 0, 1) := by decide +kernel
theorem dX5_cracks_2 : decode cX5_cracks 2 = .ok (.iconst 3, 1) := by decide +kernel
theorem dX5_cracks_3 : decode cX5_cracks 3 = .ok (.invokestatic 49, 3) := by decide +kernel
theorem dX5_cracks_6 : decode cX5_cracks 6 = .ok (.ifCond .ne 6, 3) := by decide +kernel
theorem dX5_cracks_9 : decode cX5_cracks 9 = .ok (.bipush (-2), 2) := by decide +kernel
theorem dX5_cracks_11 : decode cX5_cracks 11 = .ok (.ireturn, 1) := by decide +kernel
theorem dX5_cracks_12 : decode cX5_cracks 12 = .ok (.aload_n 0, 1) := by decide +kernel
theorem dX5_cracks_13 : decode cX5_cracks 13 = .ok (.getfield 53, 3) := by decide +kernel
theorem dX5_cracks_16 : decode cX5_cracks 16 = .ok (.ifCond .ne 6, 3) := by decide +kernel
theorem dX5_cracks_19 : decode cX5_cracks 19 = .ok (.bipush (-3), 2) := by decide +kernel
theorem dX5_cracks_21 : decode cX5_cracks 21 = .ok (.ireturn, 1) := by decide +kernel
theorem dX5_cracks_22 : decode cX5_cracks 22 = .ok (.aload_n 0, 1) := by decide +kernel
theorem dX5_cracks_23 : decode cX5_cracks 23 = .ok (.iconst 0, 1) := by decide +kernel
theorem dX5_cracks_24 : decode cX5_cracks 24 = .ok (.invokevirtual 129, 3) := by decide +kernel
theorem dX5_cracks_27 : decode cX5_cracks 27 = .ok (.istore_n 2, 1) := by decide +kernel
theorem dX5_cracks_28 : decode cX5_cracks 28 = .ok (.iload_n 1, 1) := by decide +kernel
theorem dX5_cracks_29 : decode cX5_cracks 29 = .ok (.iconst 2, 1) := by decide +kernel
theorem dX5_cracks_30 : decode cX5_cracks 30 = .ok (.if_icmp .ge 25, 3) := by decide +kernel
theorem dX5_cracks_33 : decode cX5_cracks 33 = .ok (.iload_n 1, 1) := by decide +kernel
theorem dX5_cracks_34 : decode cX5_cracks 34 = .ok (.ifCond .ne 7, 3) := by decide +kernel
theorem dX5_cracks_37 : decode cX5_cracks 37 = .ok (.iload_n 2, 1) := by decide +kernel
theorem dX5_cracks_38 : decode cX5_cracks 38 = .ok (.goto 16, 3) := by decide +kernel
theorem dX5_cracks_41 : decode cX5_cracks 41 = .ok (.aload_n 0, 1) := by decide +kernel
theorem dX5_cracks_42 : decode cX5_cracks 42 = .ok (.iload_n 2, 1) := by decide +kernel
theorem dX5_cracks_43 : decode cX5_cracks 43 = .ok (.invokevirtual 151, 3) := by decide +kernel
theorem dX5_cracks_46 : decode cX5_cracks 46 = .ok (.ifCond .eq 7, 3) := by decide +kernel
theorem dX5_cracks_49 : decode cX5_cracks 49 = .ok (.iconst 1, 1) := by decide +kernel
theorem dX5_cracks_50 : decode cX5_cracks 50 = .ok (.goto 4, 3) := by decide +kernel
theorem dX5_cracks_53 : decode cX5_cracks 53 = .ok (.iconst 0, 1) := by decide +kernel
theorem dX5_cracks_54 : decode cX5_cracks 54 = .ok (.ireturn, 1) := by decide +kernel
theorem dX5_cracks_55 : decode cX5_cracks 55 = .ok (.iconst 0, 1) := by decide +kernel
theorem dX5_cracks_56 : decode cX5_cracks 56 = .ok (.istore_n 3, 1) := by decide +kernel
theorem dX5_cracks_57 : decode cX5_cracks 57 = .ok (.iconst 0, 1) := by decide +kernel
theorem dX5_cracks_58 : decode cX5_cracks 58 = .ok (.istore 4, 2) := by decide +kernel
theorem dX5_cracks_60 : decode cX5_cracks 60 = .ok (.iconst 0, 1) := by decide +kernel
theorem dX5_cracks_61 : decode cX5_cracks 61 = .ok (.istore 5, 2) := by decide +kernel
theorem dX5_cracks_63 : decode cX5_cracks 63 = .ok (.iload 5, 2) := by decide +kernel
theorem dX5_cracks_65 : decode cX5_cracks 65 = .ok (.aload_n 0, 1) := by decide +kernel
theorem dX5_cracks_66 : decode cX5_cracks 66 = .ok (.invokevirtual 59, 3) := by decide +kernel
theorem dX5_cracks_69 : decode cX5_cracks 69 = .ok (.if_icmp .ge 86, 3) := by decide +kernel
theorem dX5_cracks_72 : decode cX5_cracks 72 = .ok (.aload_n 0, 1) := by decide +kernel
theorem dX5_cracks_73 : decode cX5_cracks 73 = .ok (.iload 5, 2) := by decide +kernel
theorem dX5_cracks_75 : decode cX5_cracks 75 = .ok (.invokevirtual 135, 3) := by decide +kernel
theorem dX5_cracks_78 : decode cX5_cracks 78 = .ok (.istore 6, 2) := by decide +kernel
theorem dX5_cracks_80 : decode cX5_cracks 80 = .ok (.iload 6, 2) := by decide +kernel
theorem dX5_cracks_82 : decode cX5_cracks 82 = .ok (.iload 5, 2) := by decide +kernel
theorem dX5_cracks_84 : decode cX5_cracks 84 = .ok (.invokestatic 120, 3) := by decide +kernel
theorem dX5_cracks_87 : decode cX5_cracks 87 = .ok (.ifCond .eq 19, 3) := by decide +kernel
theorem dX5_cracks_90 : decode cX5_cracks 90 = .ok (.iload 6, 2) := by decide +kernel
theorem dX5_cracks_92 : decode cX5_cracks 92 = .ok (.iconst 1, 1) := by decide +kernel
theorem dX5_cracks_93 : decode cX5_cracks 93 = .ok (.iload 5, 2) := by decide +kernel
theorem dX5_cracks_95 : decode cX5_cracks 95 = .ok (.ishl, 1) := by decide +kernel
theorem dX5_cracks_96 : decode cX5_cracks 96 = .ok (.iconst 1, 1) := by decide +kernel
theorem dX5_cracks_97 : decode cX5_cracks 97 = .ok (.isub, 1) := by decide +kernel
theorem dX5_cracks_98 : decode cX5_cracks 98 = .ok (.iand, 1) := by decide +kernel
theorem dX5_cracks_99 : decode cX5_cracks 99 = .ok (.ifCond .ne 7, 3) := by decide +kernel
theorem dX5_cracks_102 : decode cX5_cracks 102 = .ok (.iconst 1, 1) := by decide +kernel
theorem dX5_cracks_103 : decode cX5_cracks 103 = .ok (.goto 4, 3) := by decide +kernel
theorem dX5_cracks_106 : decode cX5_cracks 106 = .ok (.iconst 0, 1) := by decide +kernel
theorem dX5_cracks_107 : decode cX5_cracks 107 = .ok (.istore 7, 2) := by decide +kernel
theorem dX5_cracks_109 : decode cX5_cracks 109 = .ok (.iload_n 3, 1) := by decide +kernel
theorem dX5_cracks_110 : decode cX5_cracks 110 = .ok (.iload 7, 2) := by decide +kernel
theorem dX5_cracks_112 : decode cX5_cracks 112 = .ok (.ifCond .eq 7, 3) := by decide +kernel
theorem dX5_cracks_115 : decode cX5_cracks 115 = .ok (.iconst 1, 1) := by decide +kernel
theorem dX5_cracks_116 : decode cX5_cracks 116 = .ok (.goto 4, 3) := by decide +kernel
theorem dX5_cracks_119 : decode cX5_cracks 119 = .ok (.iconst 0, 1) := by decide +kernel
theorem dX5_cracks_120 : decode cX5_cracks 120 = .ok (.iadd, 1) := by decide +kernel
theorem dX5_cracks_121 : decode cX5_cracks 121 = .ok (.istore_n 3, 1) := by decide +kernel
theorem dX5_cracks_122 : decode cX5_cracks 122 = .ok (.iload 7, 2) := by decide +kernel
theorem dX5_cracks_124 : decode cX5_cracks 124 = .ok (.ifCond .eq 21, 3) := by decide +kernel
theorem dX5_cracks_127 : decode cX5_cracks 127 = .ok (.iload 6, 2) := by decide +kernel
theorem dX5_cracks_129 : decode cX5_cracks 129 = .ok (.invokestatic 138, 3) := by decide +kernel
theorem dX5_cracks_132 : decode cX5_cracks 132 = .ok (.iload 4, 2) := by decide +kernel
theorem dX5_cracks_134 : decode cX5_cracks 134 = .ok (.if_icmp .le 11, 3) := by decide +kernel
theorem dX5_cracks_137 : decode cX5_cracks 137 = .ok (.iload 6, 2) := by decide +kernel
theorem dX5_cracks_139 : decode cX5_cracks 139 = .ok (.invokestatic 138, 3) := by decide +kernel
theorem dX5_cracks_142 : decode cX5_cracks 142 = .ok (.goto 5, 3) := by decide +kernel
theorem dX5_cracks_145 : decode cX5_cracks 145 = .ok (.iload 4, 2) := by decide +kernel
theorem dX5_cracks_147 : decode cX5_cracks 147 = .ok (.istore 4, 2) := by decide +kernel
theorem dX5_cracks_149 : decode cX5_cracks 149 = .ok (.iinc 5 1, 3) := by decide +kernel
theorem dX5_cracks_152 : decode cX5_cracks 152 = .ok (.goto (-89), 3) := by decide +kernel
theorem dX5_cracks_155 : decode cX5_cracks 155 = .ok (.iload_n 1, 1) := by decide +kernel
theorem dX5_cracks_156 : decode cX5_cracks 156 = .ok (.iconst 2, 1) := by decide +kernel
theorem dX5_cracks_157 : decode cX5_cracks 157 = .ok (.if_icmp .ne 7, 3) := by decide +kernel
theorem dX5_cracks_160 : decode cX5_cracks 160 = .ok (.iload_n 3, 1) := by decide +kernel
theorem dX5_cracks_161 : decode cX5_cracks 161 = .ok (.goto 5, 3) := by decide +kernel
theorem dX5_cracks_164 : decode cX5_cracks 164 = .ok (.iload 4, 2) := by decide +kernel
theorem dX5_cracks_166 : decode cX5_cracks 166 = .ok (.ireturn, 1) := by decide +kernel
theorem dX5_way_0 : decode cX5_way 0 = .ok (.aload_n 0, 1) := by decide +kernel
theorem dX5_way_1 : decode cX5_way 1 = .ok (.iload_n 1, 1) := by decide +kernel
theorem dX5_way_2 : decode cX5_way 2 = .ok (.invokevirtual 132, 3) := by decide +kernel
theorem dX5_way_5 : decode cX5_way 5 = .ok (.ifCond .eq 11, 3) := by decide +kernel
theorem dX5_way_8 : decode cX5_way 8 = .ok (.aload_n 0, 1) := by decide +kernel
theorem dX5_way_9 : decode cX5_way 9 = .ok (.iload_n 2, 1) := by decide +kernel
theorem dX5_way_10 : decode cX5_way 10 = .ok (.invokevirtual 132, 3) := by decide +kernel
theorem dX5_way_13 : decode cX5_way 13 = .ok (.ifCond .ne 5, 3) := by decide +kernel
theorem dX5_way_16 : decode cX5_way 16 = .ok (.iconst (-1), 1) := by decide +kernel
theorem dX5_way_17 : decode cX5_way 17 = .ok (.ireturn, 1) := by decide +kernel
theorem dX5_way_18 : decode cX5_way 18 = .ok (.aload_n 0, 1) := by decide +kernel
theorem dX5_way_19 : decode cX5_way 19 = .ok (.iconst 0, 1) := by decide +kernel
theorem dX5_way_20 : decode cX5_way 20 = .ok (.invokevirtual 129, 3) := by decide +kernel
theorem dX5_way_23 : decode cX5_way 23 = .ok (.istore_n 3, 1) := by decide +kernel
theorem dX5_way_24 : decode cX5_way 24 = .ok (.iload_n 3, 1) := by decide +kernel
theorem dX5_way_25 : decode cX5_way 25 = .ok (.iconst 1, 1) := by decide +kernel
theorem dX5_way_26 : decode cX5_way 26 = .ok (.iload_n 1, 1) := by decide +kernel
theorem dX5_way_27 : decode cX5_way 27 = .ok (.ishl, 1) := by decide +kernel
theorem dX5_way_28 : decode cX5_way 28 = .ok (.iand, 1) := by decide +kernel
theorem dX5_way_29 : decode cX5_way 29 = .ok (.istore 4, 2) := by decide +kernel
theorem dX5_way_31 : decode cX5_way 31 = .ok (.iconst 0, 1) := by decide +kernel
theorem dX5_way_32 : decode cX5_way 32 = .ok (.istore 5, 2) := by decide +kernel
theorem dX5_way_34 : decode cX5_way 34 = .ok (.iload 5, 2) := by decide +kernel
theorem dX5_way_36 : decode cX5_way 36 = .ok (.aload_n 0, 1) := by decide +kernel
theorem dX5_way_37 : decode cX5_way 37 = .ok (.invokevirtual 59, 3) := by decide +kernel
theorem dX5_way_40 : decode cX5_way 40 = .ok (.if_icmp .ge 89, 3) := by decide +kernel
theorem dX5_way_43 : decode cX5_way 43 = .ok (.iload_n 3, 1) := by decide +kernel
theorem dX5_way_44 : decode cX5_way 44 = .ok (.iload_n 2, 1) := by decide +kernel
theorem dX5_way_45 : decode cX5_way 45 = .ok (.invokestatic 120, 3) := by decide +kernel
theorem dX5_way_48 : decode cX5_way 48 = .ok (.ifCond .eq 81, 3) := by decide +kernel
theorem dX5_way_51 : decode cX5_way 51 = .ok (.iload 4, 2) := by decide +kernel
theorem dX5_way_53 : decode cX5_way 53 = .ok (.iload_n 2, 1) := by decide +kernel
theorem dX5_way_54 : decode cX5_way 54 = .ok (.invokestatic 120, 3) := by decide +kernel
theorem dX5_way_57 : decode cX5_way 57 = .ok (.ifCond .eq 6, 3) := by decide +kernel
theorem dX5_way_60 : decode cX5_way 60 = .ok (.iload 5, 2) := by decide +kernel
theorem dX5_way_62 : decode cX5_way 62 = .ok (.ireturn, 1) := by decide +kernel
theorem dX5_way_63 : decode cX5_way 63 = .ok (.iload 4, 2) := by decide +kernel
theorem dX5_way_65 : decode cX5_way 65 = .ok (.istore 6, 2) := by decide +kernel
theorem dX5_way_67 : decode cX5_way 67 = .ok (.iconst 0, 1) := by decide +kernel
theorem dX5_way_68 : decode cX5_way 68 = .ok (.istore 7, 2) := by decide +kernel
theorem dX5_way_70 : decode cX5_way 70 = .ok (.iload 7, 2) := by decide +kernel
theorem dX5_way_72 : decode cX5_way 72 = .ok (.aload_n 0, 1) := by decide +kernel
theorem dX5_way_73 : decode cX5_way 73 = .ok (.invokevirtual 59, 3) := by decide +kernel
theorem dX5_way_76 : decode cX5_way 76 = .ok (.if_icmp .ge 43, 3) := by decide +kernel
theorem dX5_way_79 : decode cX5_way 79 = .ok (.iload 6, 2) := by decide +kernel
theorem dX5_way_81 : decode cX5_way 81 = .ok (.iload_n 3, 1) := by decide +kernel
theorem dX5_way_82 : decode cX5_way 82 = .ok (.iload 7, 2) := by decide +kernel
theorem dX5_way_84 : decode cX5_way 84 = .ok (.invokestatic 120, 3) := by decide +kernel
theorem dX5_way_87 : decode cX5_way 87 = .ok (.ifCond .eq 22, 3) := by decide +kernel
theorem dX5_way_90 : decode cX5_way 90 = .ok (.aload_n 0, 1) := by decide +kernel
theorem dX5_way_91 : decode cX5_way 91 = .ok (.iload 7, 2) := by decide +kernel
theorem dX5_way_93 : decode cX5_way 93 = .ok (.invokevirtual 123, 3) := by decide +kernel
theorem dX5_way_96 : decode cX5_way 96 = .ok (.iload 4, 2) := by decide +kernel
theorem dX5_way_98 : decode cX5_way 98 = .ok (.iand, 1) := by decide +kernel
theorem dX5_way_99 : decode cX5_way 99 = .ok (.ifCond .eq 10, 3) := by decide +kernel
theorem dX5_way_102 : decode cX5_way 102 = .ok (.iconst 1, 1) := by decide +kernel
theorem dX5_way_103 : decode cX5_way 103 = .ok (.iload 7, 2) := by decide +kernel
theorem dX5_way_105 : decode cX5_way 105 = .ok (.ishl, 1) := by decide +kernel
theorem dX5_way_106 : decode cX5_way 106 = .ok (.goto 4, 3) := by decide +kernel
theorem dX5_way_109 : decode cX5_way 109 = .ok (.iconst 0, 1) := by decide +kernel
theorem dX5_way_110 : decode cX5_way 110 = .ok (.ior, 1) := by decide +kernel
theorem dX5_way_111 : decode cX5_way 111 = .ok (.istore 6, 2) := by decide +kernel
theorem dX5_way_113 : decode cX5_way 113 = .ok (.iinc 7 1, 3) := by decide +kernel
theorem dX5_way_116 : decode cX5_way 116 = .ok (.goto (-46), 3) := by decide +kernel
theorem dX5_way_119 : decode cX5_way 119 = .ok (.iload 6, 2) := by decide +kernel
theorem dX5_way_121 : decode cX5_way 121 = .ok (.istore 4, 2) := by decide +kernel
theorem dX5_way_123 : decode cX5_way 123 = .ok (.iinc 5 1, 3) := by decide +kernel
theorem dX5_way_126 : decode cX5_way 126 = .ok (.goto (-92), 3) := by decide +kernel
theorem dX5_way_129 : decode cX5_way 129 = .ok (.bipush (-9), 2) := by decide +kernel
theorem dX5_way_131 : decode cX5_way 131 = .ok (.ireturn, 1) := by decide +kernel
theorem dX5_keep_0 : decode cX5_keep 0 = .ok (.aload_n 0, 1) := by decide +kernel
theorem dX5_keep_1 : decode cX5_keep 1 = .ok (.aload_n 0, 1) := by decide +kernel
theorem dX5_keep_2 : decode cX5_keep 2 = .ok (.getfield 90, 3) := by decide +kernel
theorem dX5_keep_5 : decode cX5_keep 5 = .ok (.putfield 154, 3) := by decide +kernel
theorem dX5_keep_8 : decode cX5_keep 8 = .ok (.iconst 0, 1) := by decide +kernel
theorem dX5_keep_9 : decode cX5_keep 9 = .ok (.istore_n 1, 1) := by decide +kernel
theorem dX5_keep_10 : decode cX5_keep 10 = .ok (.iload_n 1, 1) := by decide +kernel
theorem dX5_keep_11 : decode cX5_keep 11 = .ok (.aload_n 0, 1) := by decide +kernel
theorem dX5_keep_12 : decode cX5_keep 12 = .ok (.invokevirtual 59, 3) := by decide +kernel
theorem dX5_keep_15 : decode cX5_keep 15 = .ok (.if_icmp .ge 21, 3) := by decide +kernel
theorem dX5_keep_18 : decode cX5_keep 18 = .ok (.aload_n 0, 1) := by decide +kernel
theorem dX5_keep_19 : decode cX5_keep 19 = .ok (.getfield 31, 3) := by decide +kernel
theorem dX5_keep_22 : decode cX5_keep 22 = .ok (.iload_n 1, 1) := by decide +kernel
theorem dX5_keep_23 : decode cX5_keep 23 = .ok (.aload_n 0, 1) := by decide +kernel
theorem dX5_keep_24 : decode cX5_keep 24 = .ok (.getfield 22, 3) := by decide +kernel
theorem dX5_keep_27 : decode cX5_keep 27 = .ok (.iload_n 1, 1) := by decide +kernel
theorem dX5_keep_28 : decode cX5_keep 28 = .ok (.iaload, 1) := by decide +kernel
theorem dX5_keep_29 : decode cX5_keep 29 = .ok (.iastore, 1) := by decide +kernel
theorem dX5_keep_30 : decode cX5_keep 30 = .ok (.iinc 1 1, 3) := by decide +kernel
theorem dX5_keep_33 : decode cX5_keep 33 = .ok (.goto (-23), 3) := by decide +kernel
theorem dX5_keep_36 : decode cX5_keep 36 = .ok (.return_, 1) := by decide +kernel
theorem dX5_putBack_0 : decode cX5_putBack 0 = .ok (.aload_n 0, 1) := by decide +kernel
theorem dX5_putBack_1 : decode cX5_putBack 1 = .ok (.aload_n 0, 1) := by decide +kernel
theorem dX5_putBack_2 : decode cX5_putBack 2 = .ok (.getfield 154, 3) := by decide +kernel
theorem dX5_putBack_5 : decode cX5_putBack 5 = .ok (.putfield 90, 3) := by decide +kernel
theorem dX5_putBack_8 : decode cX5_putBack 8 = .ok (.iconst 0, 1) := by decide +kernel
theorem dX5_putBack_9 : decode cX5_putBack 9 = .ok (.istore_n 1, 1) := by decide +kernel
theorem dX5_putBack_10 : decode cX5_putBack 10 = .ok (.iload_n 1, 1) := by decide +kernel
theorem dX5_putBack_11 : decode cX5_putBack 11 = .ok (.aload_n 0, 1) := by decide +kernel
theorem dX5_putBack_12 : decode cX5_putBack 12 = .ok (.invokevirtual 59, 3) := by decide +kernel
theorem dX5_putBack_15 : decode cX5_putBack 15 = .ok (.if_icmp .ge 21, 3) := by decide +kernel
theorem dX5_putBack_18 : decode cX5_putBack 18 = .ok (.aload_n 0, 1) := by decide +kernel
theorem dX5_putBack_19 : decode cX5_putBack 19 = .ok (.getfield 22, 3) := by decide +kernel
theorem dX5_putBack_22 : decode cX5_putBack 22 = .ok (.iload_n 1, 1) := by decide +kernel
theorem dX5_putBack_23 : decode cX5_putBack 23 = .ok (.aload_n 0, 1) := by decide +kernel
theorem dX5_putBack_24 : decode cX5_putBack 24 = .ok (.getfield 31, 3) := by decide +kernel
theorem dX5_putBack_27 : decode cX5_putBack 27 = .ok (.iload_n 1, 1) := by decide +kernel
theorem dX5_putBack_28 : decode cX5_putBack 28 = .ok (.iaload, 1) := by decide +kernel
theorem dX5_putBack_29 : decode cX5_putBack 29 = .ok (.iastore, 1) := by decide +kernel
theorem dX5_putBack_30 : decode cX5_putBack 30 = .ok (.iinc 1 1, 3) := by decide +kernel
theorem dX5_putBack_33 : decode cX5_putBack 33 = .ok (.goto (-23), 3) := by decide +kernel
theorem dX5_putBack_36 : decode cX5_putBack 36 = .ok (.return_, 1) := by decide +kernel
theorem dX5_refusesPair_0 : decode cX5_refusesPair 0 = .ok (.iload_n 1, 1) := by decide +kernel
theorem dX5_refusesPair_1 : decode cX5_refusesPair 1 = .ok (.iconst 0, 1) := by decide +kernel
theorem dX5_refusesPair_2 : decode cX5_refusesPair 2 = .ok (.iconst 2, 1) := by decide +kernel
theorem dX5_refusesPair_3 : decode cX5_refusesPair 3 = .ok (.invokestatic 49, 3) := by decide +kernel
theorem dX5_refusesPair_6 : decode cX5_refusesPair 6 = .ok (.ifCond .eq 15, 3) := by decide +kernel
theorem dX5_refusesPair_9 : decode cX5_refusesPair 9 = .ok (.iload_n 1, 1) := by decide +kernel
theorem dX5_refusesPair_10 : decode cX5_refusesPair 10 = .ok (.iconst 1, 1) := by decide +kernel
theorem dX5_refusesPair_11 : decode cX5_refusesPair 11 = .ok (.if_icmp .eq 13, 3) := by decide +kernel
theorem dX5_refusesPair_14 : decode cX5_refusesPair 14 = .ok (.iload_n 2, 1) := by decide +kernel
theorem dX5_refusesPair_15 : decode cX5_refusesPair 15 = .ok (.invokestatic 141, 3) := by decide +kernel
theorem dX5_refusesPair_18 : decode cX5_refusesPair 18 = .ok (.ifCond .ne 6, 3) := by decide +kernel
theorem dX5_refusesPair_21 : decode cX5_refusesPair 21 = .ok (.bipush (-2), 2) := by decide +kernel
theorem dX5_refusesPair_23 : decode cX5_refusesPair 23 = .ok (.ireturn, 1) := by decide +kernel
theorem dX5_refusesPair_24 : decode cX5_refusesPair 24 = .ok (.iload_n 1, 1) := by decide +kernel
theorem dX5_refusesPair_25 : decode cX5_refusesPair 25 = .ok (.iconst 1, 1) := by decide +kernel
theorem dX5_refusesPair_26 : decode cX5_refusesPair 26 = .ok (.if_icmp .ne 15, 3) := by decide +kernel
theorem dX5_refusesPair_29 : decode cX5_refusesPair 29 = .ok (.aload_n 0, 1) := by decide +kernel
theorem dX5_refusesPair_30 : decode cX5_refusesPair 30 = .ok (.iload_n 2, 1) := by decide +kernel
theorem dX5_refusesPair_31 : decode cX5_refusesPair 31 = .ok (.invokevirtual 132, 3) := by decide +kernel
theorem dX5_refusesPair_34 : decode cX5_refusesPair 34 = .ok (.ifCond .ne 7, 3) := by decide +kernel
theorem dX5_refusesPair_37 : decode cX5_refusesPair 37 = .ok (.iconst (-1), 1) := by decide +kernel
theorem dX5_refusesPair_38 : decode cX5_refusesPair 38 = .ok (.goto 4, 3) := by decide +kernel
theorem dX5_refusesPair_41 : decode cX5_refusesPair 41 = .ok (.iconst 0, 1) := by decide +kernel
theorem dX5_refusesPair_42 : decode cX5_refusesPair 42 = .ok (.ireturn, 1) := by decide +kernel
theorem dX5_noteOpen_0 : decode cX5_noteOpen 0 = .ok (.aload_n 0, 1) := by decide +kernel
theorem dX5_noteOpen_1 : decode cX5_noteOpen 1 = .ok (.getfield 157, 3) := by decide +kernel
theorem dX5_noteOpen_4 : decode cX5_noteOpen 4 = .ok (.bipush (-9), 2) := by decide +kernel
theorem dX5_noteOpen_6 : decode cX5_noteOpen 6 = .ok (.if_icmp .ne 23, 3) := by decide +kernel
theorem dX5_noteOpen_9 : decode cX5_noteOpen 9 = .ok (.aload_n 0, 1) := by decide +kernel
theorem dX5_noteOpen_10 : decode cX5_noteOpen 10 = .ok (.aload_n 0, 1) := by decide +kernel
theorem dX5_noteOpen_11 : decode cX5_noteOpen 11 = .ok (.iconst 0, 1) := by decide +kernel
theorem dX5_noteOpen_12 : decode cX5_noteOpen 12 = .ok (.invokevirtual 129, 3) := by decide +kernel
theorem dX5_noteOpen_15 : decode cX5_noteOpen 15 = .ok (.invokevirtual 151, 3) := by decide +kernel
theorem dX5_noteOpen_18 : decode cX5_noteOpen 18 = .ok (.ifCond .eq 11, 3) := by decide +kernel
theorem dX5_noteOpen_21 : decode cX5_noteOpen 21 = .ok (.aload_n 0, 1) := by decide +kernel
theorem dX5_noteOpen_22 : decode cX5_noteOpen 22 = .ok (.aload_n 0, 1) := by decide +kernel
theorem dX5_noteOpen_23 : decode cX5_noteOpen 23 = .ok (.getfield 160, 3) := by decide +kernel
theorem dX5_noteOpen_26 : decode cX5_noteOpen 26 = .ok (.putfield 157, 3) := by decide +kernel
theorem dX5_noteOpen_29 : decode cX5_noteOpen 29 = .ok (.return_, 1) := by decide +kernel
theorem dX5_does_0 : decode cX5_does 0 = .ok (.iload_n 1, 1) := by decide +kernel
theorem dX5_does_1 : decode cX5_does 1 = .ok (.iconst 1, 1) := by decide +kernel
theorem dX5_does_2 : decode cX5_does 2 = .ok (.if_icmp .ne 21, 3) := by decide +kernel
theorem dX5_does_5 : decode cX5_does 5 = .ok (.aload_n 0, 1) := by decide +kernel
theorem dX5_does_6 : decode cX5_does 6 = .ok (.getfield 22, 3) := by decide +kernel
theorem dX5_does_9 : decode cX5_does 9 = .ok (.iload_n 2, 1) := by decide +kernel
theorem dX5_does_10 : decode cX5_does 10 = .ok (.iaload, 1) := by decide +kernel
theorem dX5_does_11 : decode cX5_does 11 = .ok (.ifCond .ne 5, 3) := by decide +kernel
theorem dX5_does_14 : decode cX5_does 14 = .ok (.iconst 0, 1) := by decide +kernel
theorem dX5_does_15 : decode cX5_does 15 = .ok (.ireturn, 1) := by decide +kernel
theorem dX5_does_16 : decode cX5_does 16 = .ok (.aload_n 0, 1) := by decide +kernel
theorem dX5_does_17 : decode cX5_does 17 = .ok (.iload_n 2, 1) := by decide +kernel
theorem dX5_does_18 : decode cX5_does 18 = .ok (.iconst 3, 1) := by decide +kernel
theorem dX5_does_19 : decode cX5_does 19 = .ok (.invokevirtual 148, 3) := by decide +kernel
theorem dX5_does_22 : decode cX5_does 22 = .ok (.pop, 1) := by decide +kernel
theorem dX5_does_23 : decode cX5_does 23 = .ok (.iload_n 1, 1) := by decide +kernel
theorem dX5_does_24 : decode cX5_does 24 = .ok (.iconst 2, 1) := by decide +kernel
theorem dX5_does_25 : decode cX5_does 25 = .ok (.if_icmp .ne 8, 3) := by decide +kernel
theorem dX5_does_28 : decode cX5_does 28 = .ok (.aload_n 0, 1) := by decide +kernel
theorem dX5_does_29 : decode cX5_does 29 = .ok (.iload_n 2, 1) := by decide +kernel
theorem dX5_does_30 : decode cX5_does 30 = .ok (.putfield 90, 3) := by decide +kernel
theorem dX5_does_33 : decode cX5_does 33 = .ok (.iconst 0, 1) := by decide +kernel
theorem dX5_does_34 : decode cX5_does 34 = .ok (.istore_n 3, 1) := by decide +kernel
theorem dX5_does_35 : decode cX5_does 35 = .ok (.iload_n 3, 1) := by decide +kernel
theorem dX5_does_36 : decode cX5_does 36 = .ok (.iload_n 2, 1) := by decide +kernel
theorem dX5_does_37 : decode cX5_does 37 = .ok (.if_icmp .ge 32, 3) := by decide +kernel
end
section
theorem dX5_does_40 : decode cX5_does 40 = .ok (.iload_n 1, 1) := by decide +kernel
theorem dX5_does_41 : decode cX5_does 41 = .ok (.ifCond .ne 28, 3) := by decide +kernel
theorem dX5_does_44 : decode cX5_does 44 = .ok (.aload_n 0, 1) := by decide +kernel
theorem dX5_does_45 : decode cX5_does 45 = .ok (.iconst 1, 1) := by decide +kernel
theorem dX5_does_46 : decode cX5_does 46 = .ok (.invokevirtual 144, 3) := by decide +kernel
theorem dX5_does_49 : decode cX5_does 49 = .ok (.aload_n 0, 1) := by decide +kernel
theorem dX5_does_50 : decode cX5_does 50 = .ok (.dup, 1) := by decide +kernel
theorem dX5_does_51 : decode cX5_does 51 = .ok (.getfield 160, 3) := by decide +kernel
theorem dX5_does_54 : decode cX5_does 54 = .ok (.iconst 1, 1) := by decide +kernel
theorem dX5_does_55 : decode cX5_does 55 = .ok (.iadd, 1) := by decide +kernel
theorem dX5_does_56 : decode cX5_does 56 = .ok (.putfield 160, 3) := by decide +kernel
theorem dX5_does_59 : decode cX5_does 59 = .ok (.aload_n 0, 1) := by decide +kernel
theorem dX5_does_60 : decode cX5_does 60 = .ok (.invokevirtual 163, 3) := by decide +kernel
theorem dX5_does_63 : decode cX5_does 63 = .ok (.iinc 3 1, 3) := by decide +kernel
theorem dX5_does_66 : decode cX5_does 66 = .ok (.goto (-31), 3) := by decide +kernel
theorem dX5_does_69 : decode cX5_does 69 = .ok (.iconst 1, 1) := by decide +kernel
theorem dX5_does_70 : decode cX5_does 70 = .ok (.ireturn, 1) := by decide +kernel
theorem dX5_goPlan_0 : decode cX5_goPlan 0 = .ok (.aload_n 0, 1) := by decide +kernel
theorem dX5_goPlan_1 : decode cX5_goPlan 1 = .ok (.bipush (-9), 2) := by decide +kernel
theorem dX5_goPlan_3 : decode cX5_goPlan 3 = .ok (.putfield 157, 3) := by decide +kernel
theorem dX5_goPlan_6 : decode cX5_goPlan 6 = .ok (.aload_n 0, 1) := by decide +kernel
theorem dX5_goPlan_7 : decode cX5_goPlan 7 = .ok (.iconst 0, 1) := by decide +kernel
theorem dX5_goPlan_8 : decode cX5_goPlan 8 = .ok (.putfield 160, 3) := by decide +kernel
theorem dX5_goPlan_11 : decode cX5_goPlan 11 = .ok (.aload_n 0, 1) := by decide +kernel
theorem dX5_goPlan_12 : decode cX5_goPlan 12 = .ok (.invokevirtual 163, 3) := by decide +kernel
theorem dX5_goPlan_15 : decode cX5_goPlan 15 = .ok (.iconst 0, 1) := by decide +kernel
theorem dX5_goPlan_16 : decode cX5_goPlan 16 = .ok (.istore_n 3, 1) := by decide +kernel
theorem dX5_goPlan_17 : decode cX5_goPlan 17 = .ok (.iload_n 3, 1) := by decide +kernel
theorem dX5_goPlan_18 : decode cX5_goPlan 18 = .ok (.iload_n 2, 1) := by decide +kernel
theorem dX5_goPlan_19 : decode cX5_goPlan 19 = .ok (.if_icmp .ge 40, 3) := by decide +kernel
theorem dX5_goPlan_22 : decode cX5_goPlan 22 = .ok (.aload_n 0, 1) := by decide +kernel
theorem dX5_goPlan_23 : decode cX5_goPlan 23 = .ok (.aload_n 0, 1) := by decide +kernel
theorem dX5_goPlan_24 : decode cX5_goPlan 24 = .ok (.getfield 16, 3) := by decide +kernel
theorem dX5_goPlan_27 : decode cX5_goPlan 27 = .ok (.iload_n 1, 1) := by decide +kernel
theorem dX5_goPlan_28 : decode cX5_goPlan 28 = .ok (.iconst 2, 1) := by decide +kernel
theorem dX5_goPlan_29 : decode cX5_goPlan 29 = .ok (.iload_n 3, 1) := by decide +kernel
theorem dX5_goPlan_30 : decode cX5_goPlan 30 = .ok (.imul, 1) := by decide +kernel
theorem dX5_goPlan_31 : decode cX5_goPlan 31 = .ok (.iadd, 1) := by decide +kernel
theorem dX5_goPlan_32 : decode cX5_goPlan 32 = .ok (.iaload, 1) := by decide +kernel
theorem dX5_goPlan_33 : decode cX5_goPlan 33 = .ok (.aload_n 0, 1) := by decide +kernel
theorem dX5_goPlan_34 : decode cX5_goPlan 34 = .ok (.getfield 16, 3) := by decide +kernel
theorem dX5_goPlan_37 : decode cX5_goPlan 37 = .ok (.iload_n 1, 1) := by decide +kernel
theorem dX5_goPlan_38 : decode cX5_goPlan 38 = .ok (.iconst 2, 1) := by decide +kernel
theorem dX5_goPlan_39 : decode cX5_goPlan 39 = .ok (.iload_n 3, 1) := by decide +kernel
theorem dX5_goPlan_40 : decode cX5_goPlan 40 = .ok (.imul, 1) := by decide +kernel
theorem dX5_goPlan_41 : decode cX5_goPlan 41 = .ok (.iadd, 1) := by decide +kernel
theorem dX5_goPlan_42 : decode cX5_goPlan 42 = .ok (.iconst 1, 1) := by decide +kernel
theorem dX5_goPlan_43 : decode cX5_goPlan 43 = .ok (.iadd, 1) := by decide +kernel
theorem dX5_goPlan_44 : decode cX5_goPlan 44 = .ok (.iaload, 1) := by decide +kernel
theorem dX5_goPlan_45 : decode cX5_goPlan 45 = .ok (.invokevirtual 166, 3) := by decide +kernel
theorem dX5_goPlan_48 : decode cX5_goPlan 48 = .ok (.ifCond .ne 5, 3) := by decide +kernel
theorem dX5_goPlan_51 : decode cX5_goPlan 51 = .ok (.iload_n 3, 1) := by decide +kernel
theorem dX5_goPlan_52 : decode cX5_goPlan 52 = .ok (.ireturn, 1) := by decide +kernel
theorem dX5_goPlan_53 : decode cX5_goPlan 53 = .ok (.iinc 3 1, 3) := by decide +kernel
theorem dX5_goPlan_56 : decode cX5_goPlan 56 = .ok (.goto (-39), 3) := by decide +kernel
theorem dX5_goPlan_59 : decode cX5_goPlan 59 = .ok (.bipush (-9), 2) := by decide +kernel
theorem dX5_goPlan_61 : decode cX5_goPlan 61 = .ok (.ireturn, 1) := by decide +kernel
theorem dX5_plan_0 : decode cX5_plan 0 = .ok (.aload_n 0, 1) := by decide +kernel
theorem dX5_plan_1 : decode cX5_plan 1 = .ok (.iconst 0, 1) := by decide +kernel
theorem dX5_plan_2 : decode cX5_plan 2 = .ok (.putfield 43, 3) := by decide +kernel
theorem dX5_plan_5 : decode cX5_plan 5 = .ok (.iload_n 1, 1) := by decide +kernel
theorem dX5_plan_6 : decode cX5_plan 6 = .ok (.invokestatic 66, 3) := by decide +kernel
theorem dX5_plan_9 : decode cX5_plan 9 = .ok (.ifCond .ne 5, 3) := by decide +kernel
theorem dX5_plan_12 : decode cX5_plan 12 = .ok (.iconst (-1), 1) := by decide +kernel
theorem dX5_plan_13 : decode cX5_plan 13 = .ok (.ireturn, 1) := by decide +kernel
theorem dX5_plan_14 : decode cX5_plan 14 = .ok (.iload_n 2, 1) := by decide +kernel
theorem dX5_plan_15 : decode cX5_plan 15 = .ok (.invokestatic 70, 3) := by decide +kernel
theorem dX5_plan_18 : decode cX5_plan 18 = .ok (.ifCond .eq 36, 3) := by decide +kernel
theorem dX5_plan_21 : decode cX5_plan 21 = .ok (.iload 4, 2) := by decide +kernel
theorem dX5_plan_23 : decode cX5_plan 23 = .ok (.iconst 0, 1) := by decide +kernel
theorem dX5_plan_24 : decode cX5_plan 24 = .ok (.bipush 20, 2) := by decide +kernel
theorem dX5_plan_26 : decode cX5_plan 26 = .ok (.invokestatic 49, 3) := by decide +kernel
theorem dX5_plan_29 : decode cX5_plan 29 = .ok (.ifCond .eq 25, 3) := by decide +kernel
theorem dX5_plan_32 : decode cX5_plan 32 = .ok (.iload 5, 2) := by decide +kernel
theorem dX5_plan_34 : decode cX5_plan 34 = .ok (.iconst 0, 1) := by decide +kernel
theorem dX5_plan_35 : decode cX5_plan 35 = .ok (.iconst 4, 1) := by decide +kernel
theorem dX5_plan_36 : decode cX5_plan 36 = .ok (.invokestatic 49, 3) := by decide +kernel
theorem dX5_plan_39 : decode cX5_plan 39 = .ok (.ifCond .ne 18, 3) := by decide +kernel
theorem dX5_plan_42 : decode cX5_plan 42 = .ok (.iload 5, 2) := by decide +kernel
theorem dX5_plan_44 : decode cX5_plan 44 = .ok (.bipush 10, 2) := by decide +kernel
theorem dX5_plan_46 : decode cX5_plan 46 = .ok (.bipush 21, 2) := by decide +kernel
theorem dX5_plan_48 : decode cX5_plan 48 = .ok (.invokestatic 49, 3) := by decide +kernel
theorem dX5_plan_51 : decode cX5_plan 51 = .ok (.ifCond .ne 6, 3) := by decide +kernel
theorem dX5_plan_54 : decode cX5_plan 54 = .ok (.bipush (-2), 2) := by decide +kernel
theorem dX5_plan_56 : decode cX5_plan 56 = .ok (.ireturn, 1) := by decide +kernel
theorem dX5_plan_57 : decode cX5_plan 57 = .ok (.aload_n 0, 1) := by decide +kernel
theorem dX5_plan_58 : decode cX5_plan 58 = .ok (.iload_n 1, 1) := by decide +kernel
theorem dX5_plan_59 : decode cX5_plan 59 = .ok (.iload_n 2, 1) := by decide +kernel
theorem dX5_plan_60 : decode cX5_plan 60 = .ok (.iload_n 3, 1) := by decide +kernel
theorem dX5_plan_61 : decode cX5_plan 61 = .ok (.iconst 2, 1) := by decide +kernel
theorem dX5_plan_62 : decode cX5_plan 62 = .ok (.iload 4, 2) := by decide +kernel
theorem dX5_plan_64 : decode cX5_plan 64 = .ok (.imul, 1) := by decide +kernel
theorem dX5_plan_65 : decode cX5_plan 65 = .ok (.invokevirtual 73, 3) := by decide +kernel
theorem dX5_plan_68 : decode cX5_plan 68 = .ok (.istore 6, 2) := by decide +kernel
theorem dX5_plan_70 : decode cX5_plan 70 = .ok (.iload 6, 2) := by decide +kernel
theorem dX5_plan_72 : decode cX5_plan 72 = .ok (.ifCond .eq 10, 3) := by decide +kernel
theorem dX5_plan_75 : decode cX5_plan 75 = .ok (.aload_n 0, 1) := by decide +kernel
theorem dX5_plan_76 : decode cX5_plan 76 = .ok (.iload 6, 2) := by decide +kernel
theorem dX5_plan_78 : decode cX5_plan 78 = .ok (.invokevirtual 77, 3) := by decide +kernel
theorem dX5_plan_81 : decode cX5_plan 81 = .ok (.ireturn, 1) := by decide +kernel
theorem dX5_plan_82 : decode cX5_plan 82 = .ok (.aload_n 0, 1) := by decide +kernel
theorem dX5_plan_83 : decode cX5_plan 83 = .ok (.getfield 53, 3) := by decide +kernel
theorem dX5_plan_86 : decode cX5_plan 86 = .ok (.ifCond .ne 6, 3) := by decide +kernel
theorem dX5_plan_89 : decode cX5_plan 89 = .ok (.bipush (-3), 2) := by decide +kernel
theorem dX5_plan_91 : decode cX5_plan 91 = .ok (.ireturn, 1) := by decide +kernel
theorem dX5_plan_92 : decode cX5_plan 92 = .ok (.bipush 60, 2) := by decide +kernel
theorem dX5_plan_94 : decode cX5_plan 94 = .ok (.iload_n 1, 1) := by decide +kernel
theorem dX5_plan_95 : decode cX5_plan 95 = .ok (.imul, 1) := by decide +kernel
theorem dX5_plan_96 : decode cX5_plan 96 = .ok (.iload_n 3, 1) := by decide +kernel
theorem dX5_plan_97 : decode cX5_plan 97 = .ok (.iadd, 1) := by decide +kernel
theorem dX5_plan_98 : decode cX5_plan 98 = .ok (.istore 7, 2) := by decide +kernel
theorem dX5_plan_100 : decode cX5_plan 100 = .ok (.iconst 0, 1) := by decide +kernel
theorem dX5_plan_101 : decode cX5_plan 101 = .ok (.istore 8, 2) := by decide +kernel
theorem dX5_plan_103 : decode cX5_plan 103 = .ok (.iload 8, 2) := by decide +kernel
theorem dX5_plan_105 : decode cX5_plan 105 = .ok (.iload 4, 2) := by decide +kernel
theorem dX5_plan_107 : decode cX5_plan 107 = .ok (.if_icmp .ge 49, 3) := by decide +kernel
theorem dX5_plan_110 : decode cX5_plan 110 = .ok (.aload_n 0, 1) := by decide +kernel
theorem dX5_plan_111 : decode cX5_plan 111 = .ok (.aload_n 0, 1) := by decide +kernel
theorem dX5_plan_112 : decode cX5_plan 112 = .ok (.getfield 16, 3) := by decide +kernel
theorem dX5_plan_115 : decode cX5_plan 115 = .ok (.iload 7, 2) := by decide +kernel
theorem dX5_plan_117 : decode cX5_plan 117 = .ok (.iconst 2, 1) := by decide +kernel
theorem dX5_plan_118 : decode cX5_plan 118 = .ok (.iload 8, 2) := by decide +kernel
theorem dX5_plan_120 : decode cX5_plan 120 = .ok (.imul, 1) := by decide +kernel
theorem dX5_plan_121 : decode cX5_plan 121 = .ok (.iadd, 1) := by decide +kernel
theorem dX5_plan_122 : decode cX5_plan 122 = .ok (.iaload, 1) := by decide +kernel
theorem dX5_plan_123 : decode cX5_plan 123 = .ok (.aload_n 0, 1) := by decide +kernel
theorem dX5_plan_124 : decode cX5_plan 124 = .ok (.getfield 16, 3) := by decide +kernel
theorem dX5_plan_127 : decode cX5_plan 127 = .ok (.iload 7, 2) := by decide +kernel
theorem dX5_plan_129 : decode cX5_plan 129 = .ok (.iconst 2, 1) := by decide +kernel
theorem dX5_plan_130 : decode cX5_plan 130 = .ok (.iload 8, 2) := by decide +kernel
theorem dX5_plan_132 : decode cX5_plan 132 = .ok (.imul, 1) := by decide +kernel
theorem dX5_plan_133 : decode cX5_plan 133 = .ok (.iadd, 1) := by decide +kernel
theorem dX5_plan_134 : decode cX5_plan 134 = .ok (.iconst 1, 1) := by decide +kernel
theorem dX5_plan_135 : decode cX5_plan 135 = .ok (.iadd, 1) := by decide +kernel
theorem dX5_plan_136 : decode cX5_plan 136 = .ok (.iaload, 1) := by decide +kernel
theorem dX5_plan_137 : decode cX5_plan 137 = .ok (.invokevirtual 169, 3) := by decide +kernel
theorem dX5_plan_140 : decode cX5_plan 140 = .ok (.istore 9, 2) := by decide +kernel
theorem dX5_plan_142 : decode cX5_plan 142 = .ok (.iload 9, 2) := by decide +kernel
theorem dX5_plan_144 : decode cX5_plan 144 = .ok (.ifCond .eq 6, 3) := by decide +kernel
theorem dX5_plan_147 : decode cX5_plan 147 = .ok (.iload 9, 2) := by decide +kernel
theorem dX5_plan_149 : decode cX5_plan 149 = .ok (.ireturn, 1) := by decide +kernel
theorem dX5_plan_150 : decode cX5_plan 150 = .ok (.iinc 8 1, 3) := by decide +kernel
theorem dX5_plan_153 : decode cX5_plan 153 = .ok (.goto (-50), 3) := by decide +kernel
theorem dX5_plan_156 : decode cX5_plan 156 = .ok (.aload_n 0, 1) := by decide +kernel
theorem dX5_plan_157 : decode cX5_plan 157 = .ok (.invokevirtual 172, 3) := by decide +kernel
theorem dX5_plan_160 : decode cX5_plan 160 = .ok (.aload_n 0, 1) := by decide +kernel
theorem dX5_plan_161 : decode cX5_plan 161 = .ok (.iload 7, 2) := by decide +kernel
theorem dX5_plan_163 : decode cX5_plan 163 = .ok (.iload 4, 2) := by decide +kernel
theorem dX5_plan_165 : decode cX5_plan 165 = .ok (.invokevirtual 175, 3) := by decide +kernel
theorem dX5_plan_168 : decode cX5_plan 168 = .ok (.istore 8, 2) := by decide +kernel
theorem dX5_plan_170 : decode cX5_plan 170 = .ok (.aload_n 0, 1) := by decide +kernel
theorem dX5_plan_171 : decode cX5_plan 171 = .ok (.iload 5, 2) := by decide +kernel
theorem dX5_plan_173 : decode cX5_plan 173 = .ok (.invokevirtual 178, 3) := by decide +kernel
theorem dX5_plan_176 : decode cX5_plan 176 = .ok (.istore 9, 2) := by decide +kernel
theorem dX5_plan_178 : decode cX5_plan 178 = .ok (.aload_n 0, 1) := by decide +kernel
theorem dX5_plan_179 : decode cX5_plan 179 = .ok (.invokevirtual 181, 3) := by decide +kernel
theorem dX5_plan_182 : decode cX5_plan 182 = .ok (.iload 5, 2) := by decide +kernel
theorem dX5_plan_184 : decode cX5_plan 184 = .ok (.iconst 1, 1) := by decide +kernel
theorem dX5_plan_185 : decode cX5_plan 185 = .ok (.if_icmp .ne 8, 3) := by decide +kernel
theorem dX5_plan_188 : decode cX5_plan 188 = .ok (.iload 8, 2) := by decide +kernel
theorem dX5_plan_190 : decode cX5_plan 190 = .ok (.goto 20, 3) := by decide +kernel
theorem dX5_plan_193 : decode cX5_plan 193 = .ok (.iload 8, 2) := by decide +kernel
theorem dX5_plan_195 : decode cX5_plan 195 = .ok (.bipush (-9), 2) := by decide +kernel
theorem dX5_plan_197 : decode cX5_plan 197 = .ok (.if_icmp .ne 8, 3) := by decide +kernel
theorem dX5_plan_200 : decode cX5_plan 200 = .ok (.iload 9, 2) := by decide +kernel
theorem dX5_plan_202 : decode cX5_plan 202 = .ok (.goto 8, 3) := by decide +kernel
theorem dX5_plan_205 : decode cX5_plan 205 = .ok (.bipush (-100), 2) := by decide +kernel
theorem dX5_plan_207 : decode cX5_plan 207 = .ok (.iload 8, 2) := by decide +kernel
theorem dX5_plan_209 : decode cX5_plan 209 = .ok (.isub, 1) := by decide +kernel
theorem dX5_plan_210 : decode cX5_plan 210 = .ok (.ireturn, 1) := by decide +kernel
theorem dX5_tellPlan_0 : decode cX5_tellPlan 0 = .ok (.iload_n 1, 1) := by decide +kernel
theorem dX5_tellPlan_1 : decode cX5_tellPlan 1 = .ok (.bipush 10, 2) := by decide +kernel
theorem dX5_tellPlan_3 : decode cX5_tellPlan 3 = .ok (.if_icmp .lt 29, 3) := by decide +kernel
theorem dX5_tellPlan_6 : decode cX5_tellPlan 6 = .ok (.aload_n 0, 1) := by decide +kernel
theorem dX5_tellPlan_7 : decode cX5_tellPlan 7 = .ok (.iload_n 1, 1) := by decide +kernel
theorem dX5_tellPlan_8 : decode cX5_tellPlan 8 = .ok (.bipush 10, 2) := by decide +kernel
theorem dX5_tellPlan_10 : decode cX5_tellPlan 10 = .ok (.isub, 1) := by decide +kernel
theorem dX5_tellPlan_11 : decode cX5_tellPlan 11 = .ok (.invokevirtual 132, 3) := by decide +kernel
theorem dX5_tellPlan_14 : decode cX5_tellPlan 14 = .ok (.ifCond .eq 15, 3) := by decide +kernel
theorem dX5_tellPlan_17 : decode cX5_tellPlan 17 = .ok (.aload_n 0, 1) := by decide +kernel
theorem dX5_tellPlan_18 : decode cX5_tellPlan 18 = .ok (.getfield 22, 3) := by decide +kernel
theorem dX5_tellPlan_21 : decode cX5_tellPlan 21 = .ok (.iload_n 1, 1) := by decide +kernel
theorem dX5_tellPlan_22 : decode cX5_tellPlan 22 = .ok (.bipush 10, 2) := by decide +kernel
theorem dX5_tellPlan_24 : decode cX5_tellPlan 24 = .ok (.isub, 1) := by decide +kernel
theorem dX5_tellPlan_25 : decode cX5_tellPlan 25 = .ok (.iaload, 1) := by decide +kernel
theorem dX5_tellPlan_26 : decode cX5_tellPlan 26 = .ok (.goto 5, 3) := by decide +kernel
theorem dX5_tellPlan_29 : decode cX5_tellPlan 29 = .ok (.bipush (-9), 2) := by decide +kernel
theorem dX5_tellPlan_31 : decode cX5_tellPlan 31 = .ok (.ireturn, 1) := by decide +kernel
theorem dX5_tellPlan_32 : decode cX5_tellPlan 32 = .ok (.iload_n 1, 1) := by decide +kernel
theorem dX5_tellPlan_33 : decode cX5_tellPlan 33 = .ok (.tableswitch 64 0 4 #[35, 64, 41, 64, 59], 35) := by decide +kernel
theorem dX5_tellPlan_68 : decode cX5_tellPlan 68 = .ok (.aload_n 0, 1) := by decide +kernel
theorem dX5_tellPlan_69 : decode cX5_tellPlan 69 = .ok (.iconst 0, 1) := by decide +kernel
theorem dX5_tellPlan_70 : decode cX5_tellPlan 70 = .ok (.invokevirtual 129, 3) := by decide +kernel
theorem dX5_tellPlan_73 : decode cX5_tellPlan 73 = .ok (.ireturn, 1) := by decide +kernel
theorem dX5_tellPlan_74 : decode cX5_tellPlan 74 = .ok (.aload_n 0, 1) := by decide +kernel
theorem dX5_tellPlan_75 : decode cX5_tellPlan 75 = .ok (.aload_n 0, 1) := by decide +kernel
theorem dX5_tellPlan_76 : decode cX5_tellPlan 76 = .ok (.iconst 0, 1) := by decide +kernel
theorem dX5_tellPlan_77 : decode cX5_tellPlan 77 = .ok (.invokevirtual 129, 3) := by decide +kernel
theorem dX5_tellPlan_80 : decode cX5_tellPlan 80 = .ok (.invokevirtual 151, 3) := by decide +kernel
theorem dX5_tellPlan_83 : decode cX5_tellPlan 83 = .ok (.ifCond .eq 7, 3) := by decide +kernel
theorem dX5_tellPlan_86 : decode cX5_tellPlan 86 = .ok (.iconst 1, 1) := by decide +kernel
theorem dX5_tellPlan_87 : decode cX5_tellPlan 87 = .ok (.goto 4, 3) := by decide +kernel
theorem dX5_tellPlan_90 : decode cX5_tellPlan 90 = .ok (.iconst 0, 1) := by decide +kernel
theorem dX5_tellPlan_91 : decode cX5_tellPlan 91 = .ok (.ireturn, 1) := by decide +kernel
theorem dX5_tellPlan_92 : decode cX5_tellPlan 92 = .ok (.aload_n 0, 1) := by decide +kernel
theorem dX5_tellPlan_93 : decode cX5_tellPlan 93 = .ok (.getfield 157, 3) := by decide +kernel
theorem dX5_tellPlan_96 : decode cX5_tellPlan 96 = .ok (.ireturn, 1) := by decide +kernel
theorem dX5_tellPlan_97 : decode cX5_tellPlan 97 = .ok (.iconst 0, 1) := by decide +kernel
theorem dX5_tellPlan_98 : decode cX5_tellPlan 98 = .ok (.istore_n 2, 1) := by decide +kernel
theorem dX5_tellPlan_99 : decode cX5_tellPlan 99 = .ok (.iconst 0, 1) := by decide +kernel
theorem dX5_tellPlan_100 : decode cX5_tellPlan 100 = .ok (.istore_n 3, 1) := by decide +kernel
theorem dX5_tellPlan_101 : decode cX5_tellPlan 101 = .ok (.iload_n 3, 1) := by decide +kernel
theorem dX5_tellPlan_102 : decode cX5_tellPlan 102 = .ok (.aload_n 0, 1) := by decide +kernel
theorem dX5_tellPlan_103 : decode cX5_tellPlan 103 = .ok (.invokevirtual 59, 3) := by decide +kernel
theorem dX5_tellPlan_106 : decode cX5_tellPlan 106 = .ok (.if_icmp .ge 18, 3) := by decide +kernel
theorem dX5_tellPlan_109 : decode cX5_tellPlan 109 = .ok (.iload_n 2, 1) := by decide +kernel
theorem dX5_tellPlan_110 : decode cX5_tellPlan 110 = .ok (.aload_n 0, 1) := by decide +kernel
theorem dX5_tellPlan_111 : decode cX5_tellPlan 111 = .ok (.getfield 22, 3) := by decide +kernel
theorem dX5_tellPlan_114 : decode cX5_tellPlan 114 = .ok (.iload_n 3, 1) := by decide +kernel
theorem dX5_tellPlan_115 : decode cX5_tellPlan 115 = .ok (.iaload, 1) := by decide +kernel
theorem dX5_tellPlan_116 : decode cX5_tellPlan 116 = .ok (.iadd, 1) := by decide +kernel
theorem dX5_tellPlan_117 : decode cX5_tellPlan 117 = .ok (.istore_n 2, 1) := by decide +kernel
theorem dX5_tellPlan_118 : decode cX5_tellPlan 118 = .ok (.iinc 3 1, 3) := by decide +kernel
theorem dX5_tellPlan_121 : decode cX5_tellPlan 121 = .ok (.goto (-20), 3) := by decide +kernel
theorem dX5_tellPlan_124 : decode cX5_tellPlan 124 = .ok (.iload_n 2, 1) := by decide +kernel
theorem dX5_tellPlan_125 : decode cX5_tellPlan 125 = .ok (.ireturn, 1) := by decide +kernel
theorem dX5_when_0 : decode cX5_when 0 = .ok (.aload_n 0, 1) := by decide +kernel
theorem dX5_when_1 : decode cX5_when 1 = .ok (.iload_n 1, 1) := by decide +kernel
theorem dX5_when_2 : decode cX5_when 2 = .ok (.invokevirtual 132, 3) := by decide +kernel
theorem dX5_when_5 : decode cX5_when 5 = .ok (.ifCond .ne 5, 3) := by decide +kernel
theorem dX5_when_8 : decode cX5_when 8 = .ok (.iconst (-1), 1) := by decide +kernel
theorem dX5_when_9 : decode cX5_when 9 = .ok (.ireturn, 1) := by decide +kernel
theorem dX5_when_10 : decode cX5_when 10 = .ok (.iconst 0, 1) := by decide +kernel
theorem dX5_when_11 : decode cX5_when 11 = .ok (.istore_n 2, 1) := by decide +kernel
theorem dX5_when_12 : decode cX5_when 12 = .ok (.iload_n 2, 1) := by decide +kernel
theorem dX5_when_13 : decode cX5_when 13 = .ok (.bipush 20, 2) := by decide +kernel
theorem dX5_when_15 : decode cX5_when 15 = .ok (.if_icmp .gt 18, 3) := by decide +kernel
theorem dX5_when_18 : decode cX5_when 18 = .ok (.aload_n 0, 1) := by decide +kernel
theorem dX5_when_19 : decode cX5_when 19 = .ok (.iload_n 1, 1) := by decide +kernel
theorem dX5_when_20 : decode cX5_when 20 = .ok (.iload_n 2, 1) := by decide +kernel
theorem dX5_when_21 : decode cX5_when 21 = .ok (.invokevirtual 116, 3) := by decide +kernel
theorem dX5_when_24 : decode cX5_when 24 = .ok (.ifCond .le 9, 3) := by decide +kernel
theorem dX5_when_27 : decode cX5_when 27 = .ok (.iinc 2 1, 3) := by decide +kernel
theorem dX5_when_30 : decode cX5_when 30 = .ok (.goto (-18), 3) := by decide +kernel
theorem dX5_when_33 : decode cX5_when 33 = .ok (.iload_n 2, 1) := by decide +kernel
theorem dX5_when_34 : decode cX5_when 34 = .ok (.bipush 20, 2) := by decide +kernel
theorem dX5_when_36 : decode cX5_when 36 = .ok (.if_icmp .gt 7, 3) := by decide +kernel
theorem dX5_when_39 : decode cX5_when 39 = .ok (.iload_n 2, 1) := by decide +kernel
theorem dX5_when_40 : decode cX5_when 40 = .ok (.goto 5, 3) := by decide +kernel
theorem dX5_when_43 : decode cX5_when 43 = .ok (.bipush (-9), 2) := by decide +kernel
theorem dX5_when_45 : decode cX5_when 45 = .ok (.ireturn, 1) := by decide +kernel
theorem dX5_opens_0 : decode cX5_opens 0 = .ok (.aload_n 0, 1) := by decide +kernel
theorem dX5_opens_1 : decode cX5_opens 1 = .ok (.getfield 53, 3) := by decide +kernel
theorem dX5_opens_4 : decode cX5_opens 4 = .ok (.ifCond .ne 6, 3) := by decide +kernel
theorem dX5_opens_7 : decode cX5_opens 7 = .ok (.bipush (-3), 2) := by decide +kernel
theorem dX5_opens_9 : decode cX5_opens 9 = .ok (.ireturn, 1) := by decide +kernel
theorem dX5_opens_10 : decode cX5_opens 10 = .ok (.iconst 0, 1) := by decide +kernel
theorem dX5_opens_11 : decode cX5_opens 11 = .ok (.istore_n 1, 1) := by decide +kernel
theorem dX5_opens_12 : decode cX5_opens 12 = .ok (.iload_n 1, 1) := by decide +kernel
theorem dX5_opens_13 : decode cX5_opens 13 = .ok (.bipush 20, 2) := by decide +kernel
theorem dX5_opens_15 : decode cX5_opens 15 = .ok (.if_icmp .gt 21, 3) := by decide +kernel
theorem dX5_opens_18 : decode cX5_opens 18 = .ok (.aload_n 0, 1) := by decide +kernel
theorem dX5_opens_19 : decode cX5_opens 19 = .ok (.aload_n 0, 1) := by decide +kernel
theorem dX5_opens_20 : decode cX5_opens 20 = .ok (.iload_n 1, 1) := by decide +kernel
theorem dX5_opens_21 : decode cX5_opens 21 = .ok (.invokevirtual 129, 3) := by decide +kernel
theorem dX5_opens_24 : decode cX5_opens 24 = .ok (.invokevirtual 151, 3) := by decide +kernel
theorem dX5_opens_27 : decode cX5_opens 27 = .ok (.ifCond .ne 9, 3) := by decide +kernel
theorem dX5_opens_30 : decode cX5_opens 30 = .ok (.iinc 1 1, 3) := by decide +kernel
theorem dX5_opens_33 : decode cX5_opens 33 = .ok (.goto (-21), 3) := by decide +kernel
theorem dX5_opens_36 : decode cX5_opens 36 = .ok (.iload_n 1, 1) := by decide +kernel
theorem dX5_opens_37 : decode cX5_opens 37 = .ok (.bipush 20, 2) := by decide +kernel
theorem dX5_opens_39 : decode cX5_opens 39 = .ok (.if_icmp .gt 7, 3) := by decide +kernel
theorem dX5_opens_42 : decode cX5_opens 42 = .ok (.iload_n 1, 1) := by decide +kernel
theorem dX5_opens_43 : decode cX5_opens 43 = .ok (.goto 5, 3) := by decide +kernel
theorem dX5_opens_46 : decode cX5_opens 46 = .ok (.bipush (-9), 2) := by decide +kernel
theorem dX5_opens_48 : decode cX5_opens 48 = .ok (.ireturn, 1) := by decide +kernel
theorem dX5_bars_0 : decode cX5_bars 0 = .ok (.iload_n 1, 1) := by decide +kernel
theorem dX5_bars_1 : decode cX5_bars 1 = .ok (.iconst 0, 1) := by decide +kernel
theorem dX5_bars_2 : decode cX5_bars 2 = .ok (.bipush 20, 2) := by decide +kernel
theorem dX5_bars_4 : decode cX5_bars 4 = .ok (.invokestatic 49, 3) := by decide +kernel
theorem dX5_bars_7 : decode cX5_bars 7 = .ok (.ifCond .ne 6, 3) := by decide +kernel
theorem dX5_bars_10 : decode cX5_bars 10 = .ok (.bipush (-2), 2) := by decide +kernel
theorem dX5_bars_12 : decode cX5_bars 12 = .ok (.ireturn, 1) := by decide +kernel
theorem dX5_bars_13 : decode cX5_bars 13 = .ok (.aload_n 0, 1) := by decide +kernel
theorem dX5_bars_14 : decode cX5_bars 14 = .ok (.getfield 53, 3) := by decide +kernel
theorem dX5_bars_17 : decode cX5_bars 17 = .ok (.ifCond .ne 6, 3) := by decide +kernel
theorem dX5_bars_20 : decode cX5_bars 20 = .ok (.bipush (-3), 2) := by decide +kernel
theorem dX5_bars_22 : decode cX5_bars 22 = .ok (.ireturn, 1) := by decide +kernel
theorem dX5_bars_23 : decode cX5_bars 23 = .ok (.aload_n 0, 1) := by decide +kernel
theorem dX5_bars_24 : decode cX5_bars 24 = .ok (.iload_n 1, 1) := by decide +kernel
theorem dX5_bars_25 : decode cX5_bars 25 = .ok (.invokevirtual 129, 3) := by decide +kernel
theorem dX5_bars_28 : decode cX5_bars 28 = .ok (.istore_n 2, 1) := by decide +kernel
theorem dX5_bars_29 : decode cX5_bars 29 = .ok (.bipush (-9), 2) := by decide +kernel
theorem dX5_bars_31 : decode cX5_bars 31 = .ok (.istore_n 3, 1) := by decide +kernel
theorem dX5_bars_32 : decode cX5_bars 32 = .ok (.iconst 0, 1) := by decide +kernel
theorem dX5_bars_33 : decode cX5_bars 33 = .ok (.istore 4, 2) := by decide +kernel
theorem dX5_bars_35 : decode cX5_bars 35 = .ok (.iload 4, 2) := by decide +kernel
theorem dX5_bars_37 : decode cX5_bars 37 = .ok (.iconst 1, 1) := by decide +kernel
theorem dX5_bars_38 : decode cX5_bars 38 = .ok (.aload_n 0, 1) := by decide +kernel
theorem dX5_bars_39 : decode cX5_bars 39 = .ok (.invokevirtual 59, 3) := by decide +kernel
theorem dX5_bars_42 : decode cX5_bars 42 = .ok (.ishl, 1) := by decide +kernel
theorem dX5_bars_43 : decode cX5_bars 43 = .ok (.if_icmp .ge 55, 3) := by decide +kernel
theorem dX5_bars_46 : decode cX5_bars 46 = .ok (.iload_n 3, 1) := by decide +kernel
theorem dX5_bars_47 : decode cX5_bars 47 = .ok (.bipush (-9), 2) := by decide +kernel
theorem dX5_bars_49 : decode cX5_bars 49 = .ok (.if_icmp .eq 15, 3) := by decide +kernel
theorem dX5_bars_52 : decode cX5_bars 52 = .ok (.iload 4, 2) := by decide +kernel
theorem dX5_bars_54 : decode cX5_bars 54 = .ok (.invokestatic 138, 3) := by decide +kernel
theorem dX5_bars_57 : decode cX5_bars 57 = .ok (.iload_n 3, 1) := by decide +kernel
theorem dX5_bars_58 : decode cX5_bars 58 = .ok (.invokestatic 138, 3) := by decide +kernel
theorem dX5_bars_61 : decode cX5_bars 61 = .ok (.if_icmp .ge 7, 3) := by decide +kernel
theorem dX5_bars_64 : decode cX5_bars 64 = .ok (.iconst 1, 1) := by decide +kernel
theorem dX5_bars_65 : decode cX5_bars 65 = .ok (.goto 4, 3) := by decide +kernel
theorem dX5_bars_68 : decode cX5_bars 68 = .ok (.iconst 0, 1) := by decide +kernel
theorem dX5_bars_69 : decode cX5_bars 69 = .ok (.istore 5, 2) := by decide +kernel
theorem dX5_bars_71 : decode cX5_bars 71 = .ok (.iload 5, 2) := by decide +kernel
theorem dX5_bars_73 : decode cX5_bars 73 = .ok (.ifCond .eq 19, 3) := by decide +kernel
theorem dX5_bars_76 : decode cX5_bars 76 = .ok (.aload_n 0, 1) := by decide +kernel
theorem dX5_bars_77 : decode cX5_bars 77 = .ok (.iload_n 2, 1) := by decide +kernel
theorem dX5_bars_78 : decode cX5_bars 78 = .ok (.iload 4, 2) := by decide +kernel
theorem dX5_bars_80 : decode cX5_bars 80 = .ok (.iconst (-1), 1) := by decide +kernel
theorem dX5_bars_81 : decode cX5_bars 81 = .ok (.ixor, 1) := by decide +kernel
theorem dX5_bars_82 : decode cX5_bars 82 = .ok (.iand, 1) := by decide +kernel
theorem dX5_bars_83 : decode cX5_bars 83 = .ok (.invokevirtual 151, 3) := by decide +kernel
theorem dX5_bars_86 : decode cX5_bars 86 = .ok (.ifCond .ne 6, 3) := by decide +kernel
theorem dX5_bars_89 : decode cX5_bars 89 = .ok (.iload 4, 2) := by decide +kernel
theorem dX5_bars_91 : decode cX5_bars 91 = .ok (.istore_n 3, 1) := by decide +kernel
theorem dX5_bars_92 : decode cX5_bars 92 = .ok (.iinc 4 1, 3) := by decide +kernel
theorem dX5_bars_95 : decode cX5_bars 95 = .ok (.goto (-60), 3) := by decide +kernel
theorem dX5_bars_98 : decode cX5_bars 98 = .ok (.iload_n 3, 1) := by decide +kernel
theorem dX5_bars_99 : decode cX5_bars 99 = .ok (.ireturn, 1) := by decide +kernel
theorem dX5_dates_0 : decode cX5_dates 0 = .ok (.aload_n 0, 1) := by decide +kernel
theorem dX5_dates_1 : decode cX5_dates 1 = .ok (.getfield 53, 3) := by decide +kernel
theorem dX5_dates_4 : decode cX5_dates 4 = .ok (.ifCond .ne 6, 3) := by decide +kernel
theorem dX5_dates_7 : decode cX5_dates 7 = .ok (.bipush (-3), 2) := by decide +kernel
theorem dX5_dates_9 : decode cX5_dates 9 = .ok (.ireturn, 1) := by decide +kernel
theorem dX5_dates_10 : decode cX5_dates 10 = .ok (.iload_n 1, 1) := by decide +kernel
theorem dX5_dates_11 : decode cX5_dates 11 = .ok (.iconst 0, 1) := by decide +kernel
theorem dX5_dates_12 : decode cX5_dates 12 = .ok (.iconst 1, 1) := by decide +kernel
theorem dX5_dates_13 : decode cX5_dates 13 = .ok (.aload_n 0, 1) := by decide +kernel
theorem dX5_dates_14 : decode cX5_dates 14 = .ok (.invokevirtual 59, 3) := by decide +kernel
theorem dX5_dates_17 : decode cX5_dates 17 = .ok (.ishl, 1) := by decide +kernel
theorem dX5_dates_18 : decode cX5_dates 18 = .ok (.iconst 1, 1) := by decide +kernel
theorem dX5_dates_19 : decode cX5_dates 19 = .ok (.isub, 1) := by decide +kernel
theorem dX5_dates_20 : decode cX5_dates 20 = .ok (.invokestatic 49, 3) := by decide +kernel
theorem dX5_dates_23 : decode cX5_dates 23 = .ok (.ifCond .ne 6, 3) := by decide +kernel
theorem dX5_dates_26 : decode cX5_dates 26 = .ok (.bipush (-2), 2) := by decide +kernel
theorem dX5_dates_28 : decode cX5_dates 28 = .ok (.ireturn, 1) := by decide +kernel
theorem dX5_dates_29 : decode cX5_dates 29 = .ok (.iconst 0, 1) := by decide +kernel
theorem dX5_dates_30 : decode cX5_dates 30 = .ok (.istore_n 2, 1) := by decide +kernel
theorem dX5_dates_31 : decode cX5_dates 31 = .ok (.iconst 0, 1) := by decide +kernel
theorem dX5_dates_32 : decode cX5_dates 32 = .ok (.istore_n 3, 1) := by decide +kernel
theorem dX5_dates_33 : decode cX5_dates 33 = .ok (.iload_n 3, 1) := by decide +kernel
theorem dX5_dates_34 : decode cX5_dates 34 = .ok (.bipush 20, 2) := by decide +kernel
theorem dX5_dates_36 : decode cX5_dates 36 = .ok (.if_icmp .gt 28, 3) := by decide +kernel
theorem dX5_dates_39 : decode cX5_dates 39 = .ok (.iload_n 2, 1) := by decide +kernel
theorem dX5_dates_40 : decode cX5_dates 40 = .ok (.aload_n 0, 1) := by decide +kernel
theorem dX5_dates_41 : decode cX5_dates 41 = .ok (.iload_n 3, 1) := by decide +kernel
theorem dX5_dates_42 : decode cX5_dates 42 = .ok (.invokevirtual 129, 3) := by decide +kernel
theorem dX5_dates_45 : decode cX5_dates 45 = .ok (.iload_n 1, 1) := by decide +kernel
theorem dX5_dates_46 : decode cX5_dates 46 = .ok (.if_icmp .ne 9, 3) := by decide +kernel
theorem dX5_dates_49 : decode cX5_dates 49 = .ok (.iconst 1, 1) := by decide +kernel
theorem dX5_dates_50 : decode cX5_dates 50 = .ok (.iload_n 3, 1) := by decide +kernel
theorem dX5_dates_51 : decode cX5_dates 51 = .ok (.ishl, 1) := by decide +kernel
theorem dX5_dates_52 : decode cX5_dates 52 = .ok (.goto 4, 3) := by decide +kernel
theorem dX5_dates_55 : decode cX5_dates 55 = .ok (.iconst 0, 1) := by decide +kernel
theorem dX5_dates_56 : decode cX5_dates 56 = .ok (.ior, 1) := by decide +kernel
theorem dX5_dates_57 : decode cX5_dates 57 = .ok (.istore_n 2, 1) := by decide +kernel
theorem dX5_dates_58 : decode cX5_dates 58 = .ok (.iinc 3 1, 3) := by decide +kernel
theorem dX5_dates_61 : decode cX5_dates 61 = .ok (.goto (-28), 3) := by decide +kernel
theorem dX5_dates_64 : decode cX5_dates 64 = .ok (.iload_n 2, 1) := by decide +kernel
theorem dX5_dates_65 : decode cX5_dates 65 = .ok (.ireturn, 1) := by decide +kernel
theorem dX5_reading_0 : decode cX5_reading 0 = .ok (.aload_n 0, 1) := by decide +kernel
theorem dX5_reading_1 : decode cX5_reading 1 = .ok (.iload_n 1, 1) := by decide +kernel
theorem dX5_reading_2 : decode cX5_reading 2 = .ok (.invokevirtual 132, 3) := by decide +kernel
theorem dX5_reading_5 : decode cX5_reading 5 = .ok (.ifCond .ne 5, 3) := by decide +kernel
theorem dX5_reading_8 : decode cX5_reading 8 = .ok (.iconst (-1), 1) := by decide +kernel
theorem dX5_reading_9 : decode cX5_reading 9 = .ok (.ireturn, 1) := by decide +kernel
theorem dX5_reading_10 : decode cX5_reading 10 = .ok (.iload_n 2, 1) := by decide +kernel
theorem dX5_reading_11 : decode cX5_reading 11 = .ok (.iconst 0, 1) := by decide +kernel
theorem dX5_reading_12 : decode cX5_reading 12 = .ok (.bipush 20, 2) := by decide +kernel
theorem dX5_reading_14 : decode cX5_reading 14 = .ok (.invokestatic 49, 3) := by decide +kernel
theorem dX5_reading_17 : decode cX5_reading 17 = .ok (.ifCond .eq 12, 3) := by decide +kernel
theorem dX5_reading_20 : decode cX5_reading 20 = .ok (.iload_n 3, 1) := by decide +kernel
theorem dX5_reading_21 : decode cX5_reading 21 = .ok (.iconst 0, 1) := by decide +kernel
theorem dX5_reading_22 : decode cX5_reading 22 = .ok (.iconst 1, 1) := by decide +kernel
theorem dX5_reading_23 : decode cX5_reading 23 = .ok (.invokestatic 49, 3) := by decide +kernel
theorem dX5_reading_26 : decode cX5_reading 26 = .ok (.ifCond .ne 6, 3) := by decide +kernel
theorem dX5_reading_29 : decode cX5_reading 29 = .ok (.bipush (-2), 2) := by decide +kernel
theorem dX5_reading_31 : decode cX5_reading 31 = .ok (.ireturn, 1) := by decide +kernel
theorem dX5_reading_32 : decode cX5_reading 32 = .ok (.aload_n 0, 1) := by decide +kernel
theorem dX5_reading_33 : decode cX5_reading 33 = .ok (.getfield 102, 3) := by decide +kernel
theorem dX5_reading_36 : decode cX5_reading 36 = .ok (.bipush 8, 2) := by decide +kernel
theorem dX5_reading_38 : decode cX5_reading 38 = .ok (.if_icmp .ne 6, 3) := by decide +kernel
theorem dX5_reading_41 : decode cX5_reading 41 = .ok (.bipush (-4), 2) := by decide +kernel
theorem dX5_reading_43 : decode cX5_reading 43 = .ok (.ireturn, 1) := by decide +kernel
theorem dX5_reading_44 : decode cX5_reading 44 = .ok (.aload_n 0, 1) := by decide +kernel
theorem dX5_reading_45 : decode cX5_reading 45 = .ok (.getfield 34, 3) := by decide +kernel
theorem dX5_reading_48 : decode cX5_reading 48 = .ok (.aload_n 0, 1) := by decide +kernel
theorem dX5_reading_49 : decode cX5_reading 49 = .ok (.getfield 102, 3) := by decide +kernel
theorem dX5_reading_52 : decode cX5_reading 52 = .ok (.iload_n 1, 1) := by decide +kernel
theorem dX5_reading_53 : decode cX5_reading 53 = .ok (.iastore, 1) := by decide +kernel
theorem dX5_reading_54 : decode cX5_reading 54 = .ok (.aload_n 0, 1) := by decide +kernel
theorem dX5_reading_55 : decode cX5_reading 55 = .ok (.getfield 37, 3) := by decide +kernel
theorem dX5_reading_58 : decode cX5_reading 58 = .ok (.aload_n 0, 1) := by decide +kernel
theorem dX5_reading_59 : decode cX5_reading 59 = .ok (.getfield 102, 3) := by decide +kernel
theorem dX5_reading_62 : decode cX5_reading 62 = .ok (.iload_n 2, 1) := by decide +kernel
theorem dX5_reading_63 : decode cX5_reading 63 = .ok (.iastore, 1) := by decide +kernel
theorem dX5_reading_64 : decode cX5_reading 64 = .ok (.aload_n 0, 1) := by decide +kernel
theorem dX5_reading_65 : decode cX5_reading 65 = .ok (.getfield 40, 3) := by decide +kernel
theorem dX5_reading_68 : decode cX5_reading 68 = .ok (.aload_n 0, 1) := by decide +kernel
theorem dX5_reading_69 : decode cX5_reading 69 = .ok (.getfield 102, 3) := by decide +kernel
theorem dX5_reading_72 : decode cX5_reading 72 = .ok (.iload_n 3, 1) := by decide +kernel
theorem dX5_reading_73 : decode cX5_reading 73 = .ok (.iastore, 1) := by decide +kernel
theorem dX5_reading_74 : decode cX5_reading 74 = .ok (.aload_n 0, 1) := by decide +kernel
theorem dX5_reading_75 : decode cX5_reading 75 = .ok (.dup, 1) := by decide +kernel
theorem dX5_reading_76 : decode cX5_reading 76 = .ok (.getfield 102, 3) := by decide +kernel
theorem dX5_reading_79 : decode cX5_reading 79 = .ok (.iconst 1, 1) := by decide +kernel
theorem dX5_reading_80 : decode cX5_reading 80 = .ok (.iadd, 1) := by decide +kernel
theorem dX5_reading_81 : decode cX5_reading 81 = .ok (.putfield 102, 3) := by decide +kernel
theorem dX5_reading_84 : decode cX5_reading 84 = .ok (.aload_n 0, 1) := by decide +kernel
theorem dX5_reading_85 : decode cX5_reading 85 = .ok (.getfield 102, 3) := by decide +kernel
theorem dX5_reading_88 : decode cX5_reading 88 = .ok (.iconst 1, 1) := by decide +kernel
theorem dX5_reading_89 : decode cX5_reading 89 = .ok (.isub, 1) := by decide +kernel
theorem dX5_reading_90 : decode cX5_reading 90 = .ok (.ireturn, 1) := by decide +kernel
theorem dX5_back_0 : decode cX5_back 0 = .ok (.iload_n 1, 1) := by decide +kernel
theorem dX5_back_1 : decode cX5_back 1 = .ok (.iconst 0, 1) := by decide +kernel
theorem dX5_back_2 : decode cX5_back 2 = .ok (.aload_n 0, 1) := by decide +kernel
theorem dX5_back_3 : decode cX5_back 3 = .ok (.getfield 102, 3) := by decide +kernel
theorem dX5_back_6 : decode cX5_back 6 = .ok (.invokestatic 49, 3) := by decide +kernel
theorem dX5_back_9 : decode cX5_back 9 = .ok (.ifCond .ne 6, 3) := by decide +kernel
theorem dX5_back_12 : decode cX5_back 12 = .ok (.bipush (-2), 2) := by decide +kernel
theorem dX5_back_14 : decode cX5_back 14 = .ok (.ireturn, 1) := by decide +kernel
theorem dX5_back_15 : decode cX5_back 15 = .ok (.aload_n 0, 1) := by decide +kernel
theorem dX5_back_16 : decode cX5_back 16 = .ok (.dup, 1) := by decide +kernel
theorem dX5_back_17 : decode cX5_back 17 = .ok (.getfield 102, 3) := by decide +kernel
theorem dX5_back_20 : decode cX5_back 20 = .ok (.iload_n 1, 1) := by decide +kernel
theorem dX5_back_21 : decode cX5_back 21 = .ok (.isub, 1) := by decide +kernel
theorem dX5_back_22 : decode cX5_back 22 = .ok (.putfield 102, 3) := by decide +kernel
theorem dX5_back_25 : decode cX5_back 25 = .ok (.aload_n 0, 1) := by decide +kernel
theorem dX5_back_26 : decode cX5_back 26 = .ok (.getfield 102, 3) := by decide +kernel
theorem dX5_back_29 : decode cX5_back 29 = .ok (.ireturn, 1) := by decide +kernel
theorem dX5_areSo_0 : decode cX5_areSo 0 = .ok (.iconst 0, 1) := by decide +kernel
theorem dX5_areSo_1 : decode cX5_areSo 1 = .ok (.istore_n 1, 1) := by decide +kernel
theorem dX5_areSo_2 : decode cX5_areSo 2 = .ok (.iload_n 1, 1) := by decide +kernel
theorem dX5_areSo_3 : decode cX5_areSo 3 = .ok (.aload_n 0, 1) := by decide +kernel
theorem dX5_areSo_4 : decode cX5_areSo 4 = .ok (.getfield 102, 3) := by decide +kernel
theorem dX5_areSo_7 : decode cX5_areSo 7 = .ok (.if_icmp .ge 46, 3) := by decide +kernel
theorem dX5_areSo_10 : decode cX5_areSo 10 = .ok (.aload_n 0, 1) := by decide +kernel
theorem dX5_areSo_11 : decode cX5_areSo 11 = .ok (.aload_n 0, 1) := by decide +kernel
theorem dX5_areSo_12 : decode cX5_areSo 12 = .ok (.getfield 34, 3) := by decide +kernel
theorem dX5_areSo_15 : decode cX5_areSo 15 = .ok (.iload_n 1, 1) := by decide +kernel
theorem dX5_areSo_16 : decode cX5_areSo 16 = .ok (.iaload, 1) := by decide +kernel
theorem dX5_areSo_17 : decode cX5_areSo 17 = .ok (.aload_n 0, 1) := by decide +kernel
theorem dX5_areSo_18 : decode cX5_areSo 18 = .ok (.getfield 37, 3) := by decide +kernel
theorem dX5_areSo_21 : decode cX5_areSo 21 = .ok (.iload_n 1, 1) := by decide +kernel
theorem dX5_areSo_22 : decode cX5_areSo 22 = .ok (.iaload, 1) := by decide +kernel
theorem dX5_areSo_23 : decode cX5_areSo 23 = .ok (.invokevirtual 116, 3) := by decide +kernel
theorem dX5_areSo_26 : decode cX5_areSo 26 = .ok (.ifCond .ne 7, 3) := by decide +kernel
theorem dX5_areSo_29 : decode cX5_areSo 29 = .ok (.iconst 1, 1) := by decide +kernel
theorem dX5_areSo_30 : decode cX5_areSo 30 = .ok (.goto 4, 3) := by decide +kernel
theorem dX5_areSo_33 : decode cX5_areSo 33 = .ok (.iconst 0, 1) := by decide +kernel
theorem dX5_areSo_34 : decode cX5_areSo 34 = .ok (.istore_n 2, 1) := by decide +kernel
theorem dX5_areSo_35 : decode cX5_areSo 35 = .ok (.iload_n 2, 1) := by decide +kernel
theorem dX5_areSo_36 : decode cX5_areSo 36 = .ok (.aload_n 0, 1) := by decide +kernel
theorem dX5_areSo_37 : decode cX5_areSo 37 = .ok (.getfield 40, 3) := by decide +kernel
theorem dX5_areSo_40 : decode cX5_areSo 40 = .ok (.iload_n 1, 1) := by decide +kernel
theorem dX5_areSo_41 : decode cX5_areSo 41 = .ok (.iaload, 1) := by decide +kernel
theorem dX5_areSo_42 : decode cX5_areSo 42 = .ok (.if_icmp .eq 5, 3) := by decide +kernel
theorem dX5_areSo_45 : decode cX5_areSo 45 = .ok (.iconst 0, 1) := by decide +kernel
theorem dX5_areSo_46 : decode cX5_areSo 46 = .ok (.ireturn, 1) := by decide +kernel
theorem dX5_areSo_47 : decode cX5_areSo 47 = .ok (.iinc 1 1, 3) := by decide +kernel
theorem dX5_areSo_50 : decode cX5_areSo 50 = .ok (.goto (-48), 3) := by decide +kernel
theorem dX5_areSo_53 : decode cX5_areSo 53 = .ok (.iconst 1, 1) := by decide +kernel
theorem dX5_areSo_54 : decode cX5_areSo 54 = .ok (.ireturn, 1) := by decide +kernel
theorem dX5_wets_0 : decode cX5_wets 0 = .ok (.aload_n 0, 1) := by decide +kernel
theorem dX5_wets_1 : decode cX5_wets 1 = .ok (.iload_n 1, 1) := by decide +kernel
theorem dX5_wets_2 : decode cX5_wets 2 = .ok (.invokevirtual 132, 3) := by decide +kernel
theorem dX5_wets_5 : decode cX5_wets 5 = .ok (.ifCond .ne 5, 3) := by decide +kernel
theorem dX5_wets_8 : decode cX5_wets 8 = .ok (.iconst (-1), 1) := by decide +kernel
theorem dX5_wets_9 : decode cX5_wets 9 = .ok (.ireturn, 1) := by decide +kernel
theorem dX5_wets_10 : decode cX5_wets 10 = .ok (.aload_n 0, 1) := by decide +kernel
theorem dX5_wets_11 : decode cX5_wets 11 = .ok (.getfield 22, 3) := by decide +kernel
theorem dX5_wets_14 : decode cX5_wets 14 = .ok (.iload_n 1, 1) := by decide +kernel
theorem dX5_wets_15 : decode cX5_wets 15 = .ok (.iaload, 1) := by decide +kernel
theorem dX5_wets_16 : decode cX5_wets 16 = .ok (.istore_n 2, 1) := by decide +kernel
theorem dX5_wets_17 : decode cX5_wets 17 = .ok (.iconst 0, 1) := by decide +kernel
theorem dX5_wets_18 : decode cX5_wets 18 = .ok (.istore_n 3, 1) := by decide +kernel
theorem dX5_wets_19 : decode cX5_wets 19 = .ok (.iconst 0, 1) := by decide +kernel
theorem dX5_wets_20 : decode cX5_wets 20 = .ok (.istore 4, 2) := by decide +kernel
theorem dX5_wets_22 : decode cX5_wets 22 = .ok (.iload 4, 2) := by decide +kernel
theorem dX5_wets_24 : decode cX5_wets 24 = .ok (.bipush 9, 2) := by decide +kernel
theorem dX5_wets_26 : decode cX5_wets 26 = .ok (.if_icmp .gt 35, 3) := by decide +kernel
theorem dX5_wets_29 : decode cX5_wets 29 = .ok (.aload_n 0, 1) := by decide +kernel
theorem dX5_wets_30 : decode cX5_wets 30 = .ok (.getfield 22, 3) := by decide +kernel
theorem dX5_wets_33 : decode cX5_wets 33 = .ok (.iload_n 1, 1) := by decide +kernel
theorem dX5_wets_34 : decode cX5_wets 34 = .ok (.iload 4, 2) := by decide +kernel
theorem dX5_wets_36 : decode cX5_wets 36 = .ok (.iastore, 1) := by decide +kernel
theorem dX5_wets_37 : decode cX5_wets 37 = .ok (.iload_n 3, 1) := by decide +kernel
theorem dX5_wets_38 : decode cX5_wets 38 = .ok (.aload_n 0, 1) := by decide +kernel
theorem dX5_wets_39 : decode cX5_wets 39 = .ok (.invokevirtual 184, 3) := by decide +kernel
theorem dX5_wets_42 : decode cX5_wets 42 = .ok (.ifCond .eq 10, 3) := by decide +kernel
theorem dX5_wets_45 : decode cX5_wets 45 = .ok (.iconst 1, 1) := by decide +kernel
theorem dX5_wets_46 : decode cX5_wets 46 = .ok (.iload 4, 2) := by decide +kernel
theorem dX5_wets_48 : decode cX5_wets 48 = .ok (.ishl, 1) := by decide +kernel
theorem dX5_wets_49 : decode cX5_wets 49 = .ok (.goto 4, 3) := by decide +kernel
theorem dX5_wets_52 : decode cX5_wets 52 = .ok (.iconst 0, 1) := by decide +kernel
theorem dX5_wets_53 : decode cX5_wets 53 = .ok (.ior, 1) := by decide +kernel
theorem dX5_wets_54 : decode cX5_wets 54 = .ok (.istore_n 3, 1) := by decide +kernel
theorem dX5_wets_55 : decode cX5_wets 55 = .ok (.iinc 4 1, 3) := by decide +kernel
theorem dX5_wets_58 : decode cX5_wets 58 = .ok (.goto (-36), 3) := by decide +kernel
theorem dX5_wets_61 : decode cX5_wets 61 = .ok (.aload_n 0, 1) := by decide +kernel
theorem dX5_wets_62 : decode cX5_wets 62 = .ok (.getfield 22, 3) := by decide +kernel
theorem dX5_wets_65 : decode cX5_wets 65 = .ok (.iload_n 1, 1) := by decide +kernel
theorem dX5_wets_66 : decode cX5_wets 66 = .ok (.iload_n 2, 1) := by decide +kernel
theorem dX5_wets_67 : decode cX5_wets 67 = .ok (.iastore, 1) := by decide +kernel
theorem dX5_wets_68 : decode cX5_wets 68 = .ok (.iload_n 3, 1) := by decide +kernel
theorem dX5_wets_69 : decode cX5_wets 69 = .ok (.ireturn, 1) := by decide +kernel
theorem dX5_kinds_0 : decode cX5_kinds 0 = .ok (.aload_n 0, 1) := by decide +kernel
theorem dX5_kinds_1 : decode cX5_kinds 1 = .ok (.iload_n 1, 1) := by decide +kernel
theorem dX5_kinds_2 : decode cX5_kinds 2 = .ok (.invokevirtual 132, 3) := by decide +kernel
theorem dX5_kinds_5 : decode cX5_kinds 5 = .ok (.ifCond .ne 5, 3) := by decide +kernel
theorem dX5_kinds_8 : decode cX5_kinds 8 = .ok (.iconst (-1), 1) := by decide +kernel
theorem dX5_kinds_9 : decode cX5_kinds 9 = .ok (.ireturn, 1) := by decide +kernel
theorem dX5_kinds_10 : decode cX5_kinds 10 = .ok (.aload_n 0, 1) := by decide +kernel
theorem dX5_kinds_11 : decode cX5_kinds 11 = .ok (.getfield 19, 3) := by decide +kernel
theorem dX5_kinds_14 : decode cX5_kinds 14 = .ok (.iload_n 1, 1) := by decide +kernel
theorem dX5_kinds_15 : decode cX5_kinds 15 = .ok (.iaload, 1) := by decide +kernel
theorem dX5_kinds_16 : decode cX5_kinds 16 = .ok (.istore_n 2, 1) := by decide +kernel
theorem dX5_kinds_17 : decode cX5_kinds 17 = .ok (.iconst 0, 1) := by decide +kernel
theorem dX5_kinds_18 : decode cX5_kinds 18 = .ok (.istore_n 3, 1) := by decide +kernel
theorem dX5_kinds_19 : decode cX5_kinds 19 = .ok (.iconst 0, 1) := by decide +kernel
theorem dX5_kinds_20 : decode cX5_kinds 20 = .ok (.istore 4, 2) := by decide +kernel
theorem dX5_kinds_22 : decode cX5_kinds 22 = .ok (.iload 4, 2) := by decide +kernel
theorem dX5_kinds_24 : decode cX5_kinds 24 = .ok (.iconst 3, 1) := by decide +kernel
theorem dX5_kinds_25 : decode cX5_kinds 25 = .ok (.if_icmp .ge 35, 3) := by decide +kernel
theorem dX5_kinds_28 : decode cX5_kinds 28 = .ok (.aload_n 0, 1) := by decide +kernel
theorem dX5_kinds_29 : decode cX5_kinds 29 = .ok (.getfield 19, 3) := by decide +kernel
theorem dX5_kinds_32 : decode cX5_kinds 32 = .ok (.iload_n 1, 1) := by decide +kernel
theorem dX5_kinds_33 : decode cX5_kinds 33 = .ok (.iload 4, 2) := by decide +kernel
theorem dX5_kinds_35 : decode cX5_kinds 35 = .ok (.iastore, 1) := by decide +kernel
theorem dX5_kinds_36 : decode cX5_kinds 36 = .ok (.iload_n 3, 1) := by decide +kernel
theorem dX5_kinds_37 : decode cX5_kinds 37 = .ok (.aload_n 0, 1) := by decide +kernel
theorem dX5_kinds_38 : decode cX5_kinds 38 = .ok (.invokevirtual 184, 3) := by decide +kernel
theorem dX5_kinds_41 : decode cX5_kinds 41 = .ok (.ifCond .eq 10, 3) := by decide +kernel
theorem dX5_kinds_44 : decode cX5_kinds 44 = .ok (.iconst 1, 1) := by decide +kernel
theorem dX5_kinds_45 : decode cX5_kinds 45 = .ok (.iload 4, 2) := by decide +kernel
theorem dX5_kinds_47 : decode cX5_kinds 47 = .ok (.ishl, 1) := by decide +kernel
theorem dX5_kinds_48 : decode cX5_kinds 48 = .ok (.goto 4, 3) := by decide +kernel
theorem dX5_kinds_51 : decode cX5_kinds 51 = .ok (.iconst 0, 1) := by decide +kernel
theorem dX5_kinds_52 : decode cX5_kinds 52 = .ok (.ior, 1) := by decide +kernel
theorem dX5_kinds_53 : decode cX5_kinds 53 = .ok (.istore_n 3, 1) := by decide +kernel
theorem dX5_kinds_54 : decode cX5_kinds 54 = .ok (.iinc 4 1, 3) := by decide +kernel
theorem dX5_kinds_57 : decode cX5_kinds 57 = .ok (.goto (-35), 3) := by decide +kernel
theorem dX5_kinds_60 : decode cX5_kinds 60 = .ok (.aload_n 0, 1) := by decide +kernel
theorem dX5_kinds_61 : decode cX5_kinds 61 = .ok (.getfield 19, 3) := by decide +kernel
theorem dX5_kinds_64 : decode cX5_kinds 64 = .ok (.iload_n 1, 1) := by decide +kernel
theorem dX5_kinds_65 : decode cX5_kinds 65 = .ok (.iload_n 2, 1) := by decide +kernel
theorem dX5_kinds_66 : decode cX5_kinds 66 = .ok (.iastore, 1) := by decide +kernel
theorem dX5_kinds_67 : decode cX5_kinds 67 = .ok (.iload_n 3, 1) := by decide +kernel
theorem dX5_kinds_68 : decode cX5_kinds 68 = .ok (.ireturn, 1) := by decide +kernel
theorem dX5_suns_0 : decode cX5_suns 0 = .ok (.aload_n 0, 1) := by decide +kernel
theorem dX5_suns_1 : decode cX5_suns 1 = .ok (.getfield 53, 3) := by decide +kernel
theorem dX5_suns_4 : decode cX5_suns 4 = .ok (.ifCond .ne 6, 3) := by decide +kernel
theorem dX5_suns_7 : decode cX5_suns 7 = .ok (.bipush (-3), 2) := by decide +kernel
theorem dX5_suns_9 : decode cX5_suns 9 = .ok (.ireturn, 1) := by decide +kernel
theorem dX5_suns_10 : decode cX5_suns 10 = .ok (.aload_n 0, 1) := by decide +kernel
theorem dX5_suns_11 : decode cX5_suns 11 = .ok (.getfield 90, 3) := by decide +kernel
theorem dX5_suns_14 : decode cX5_suns 14 = .ok (.istore_n 1, 1) := by decide +kernel
theorem dX5_suns_15 : decode cX5_suns 15 = .ok (.iconst 0, 1) := by decide +kernel
theorem dX5_suns_16 : decode cX5_suns 16 = .ok (.istore_n 2, 1) := by decide +kernel
theorem dX5_suns_17 : decode cX5_suns 17 = .ok (.iconst 0, 1) := by decide +kernel
theorem dX5_suns_18 : decode cX5_suns 18 = .ok (.istore_n 3, 1) := by decide +kernel
theorem dX5_suns_19 : decode cX5_suns 19 = .ok (.iload_n 3, 1) := by decide +kernel
theorem dX5_suns_20 : decode cX5_suns 20 = .ok (.bipush 9, 2) := by decide +kernel
theorem dX5_suns_22 : decode cX5_suns 22 = .ok (.if_icmp .gt 31, 3) := by decide +kernel
theorem dX5_suns_25 : decode cX5_suns 25 = .ok (.aload_n 0, 1) := by decide +kernel
theorem dX5_suns_26 : decode cX5_suns 26 = .ok (.iload_n 3, 1) := by decide +kernel
theorem dX5_suns_27 : decode cX5_suns 27 = .ok (.putfield 90, 3) := by decide +kernel
theorem dX5_suns_30 : decode cX5_suns 30 = .ok (.iload_n 2, 1) := by decide +kernel
theorem dX5_suns_31 : decode cX5_suns 31 = .ok (.aload_n 0, 1) := by decide +kernel
theorem dX5_suns_32 : decode cX5_suns 32 = .ok (.invokevirtual 184, 3) := by decide +kernel
theorem dX5_suns_35 : decode cX5_suns 35 = .ok (.ifCond .eq 9, 3) := by decide +kernel
theorem dX5_suns_38 : decode cX5_suns 38 = .ok (.iconst 1, 1) := by decide +kernel
theorem dX5_suns_39 : decode cX5_suns 39 = .ok (.iload_n 3, 1) := by decide +kernel
theorem dX5_suns_40 : decode cX5_suns 40 = .ok (.ishl, 1) := by decide +kernel
theorem dX5_suns_41 : decode cX5_suns 41 = .ok (.goto 4, 3) := by decide +kernel
theorem dX5_suns_44 : decode cX5_suns 44 = .ok (.iconst 0, 1) := by decide +kernel
theorem dX5_suns_45 : decode cX5_suns 45 = .ok (.ior, 1) := by decide +kernel
theorem dX5_suns_46 : decode cX5_suns 46 = .ok (.istore_n 2, 1) := by decide +kernel
theorem dX5_suns_47 : decode cX5_suns 47 = .ok (.iinc 3 1, 3) := by decide +kernel
theorem dX5_suns_50 : decode cX5_suns 50 = .ok (.goto (-31), 3) := by decide +kernel
theorem dX5_suns_53 : decode cX5_suns 53 = .ok (.aload_n 0, 1) := by decide +kernel
theorem dX5_suns_54 : decode cX5_suns 54 = .ok (.iload_n 1, 1) := by decide +kernel
theorem dX5_suns_55 : decode cX5_suns 55 = .ok (.putfield 90, 3) := by decide +kernel
theorem dX5_suns_58 : decode cX5_suns 58 = .ok (.iload_n 2, 1) := by decide +kernel
theorem dX5_suns_59 : decode cX5_suns 59 = .ok (.ireturn, 1) := by decide +kernel
theorem dX5_inLeastTerms_0 : decode cX5_inLeastTerms 0 = .ok (.lload_n 0, 1) := by decide +kernel
theorem dX5_inLeastTerms_1 : decode cX5_inLeastTerms 1 = .ok (.lstore 5, 2) := by decide +kernel
theorem dX5_inLeastTerms_3 : decode cX5_inLeastTerms 3 = .ok (.lload_n 2, 1) := by decide +kernel
theorem dX5_inLeastTerms_4 : decode cX5_inLeastTerms 4 = .ok (.lstore 7, 2) := by decide +kernel
theorem dX5_inLeastTerms_6 : decode cX5_inLeastTerms 6 = .ok (.lload 7, 2) := by decide +kernel
theorem dX5_inLeastTerms_8 : decode cX5_inLeastTerms 8 = .ok (.lconst 0, 1) := by decide +kernel
theorem dX5_inLeastTerms_9 : decode cX5_inLeastTerms 9 = .ok (.lcmp, 1) := by decide +kernel
theorem dX5_inLeastTerms_10 : decode cX5_inLeastTerms 10 = .ok (.ifCond .eq 21, 3) := by decide +kernel
theorem dX5_inLeastTerms_13 : decode cX5_inLeastTerms 13 = .ok (.lload 5, 2) := by decide +kernel
theorem dX5_inLeastTerms_15 : decode cX5_inLeastTerms 15 = .ok (.lload 7, 2) := by decide +kernel
theorem dX5_inLeastTerms_17 : decode cX5_inLeastTerms 17 = .ok (.lrem, 1) := by decide +kernel
theorem dX5_inLeastTerms_18 : decode cX5_inLeastTerms 18 = .ok (.lstore 9, 2) := by decide +kernel
theorem dX5_inLeastTerms_20 : decode cX5_inLeastTerms 20 = .ok (.lload 7, 2) := by decide +kernel
theorem dX5_inLeastTerms_22 : decode cX5_inLeastTerms 22 = .ok (.lstore 5, 2) := by decide +kernel
theorem dX5_inLeastTerms_24 : decode cX5_inLeastTerms 24 = .ok (.lload 9, 2) := by decide +kernel
theorem dX5_inLeastTerms_26 : decode cX5_inLeastTerms 26 = .ok (.lstore 7, 2) := by decide +kernel
theorem dX5_inLeastTerms_28 : decode cX5_inLeastTerms 28 = .ok (.goto (-22), 3) := by decide +kernel
theorem dX5_inLeastTerms_31 : decode cX5_inLeastTerms 31 = .ok (.iload 4, 2) := by decide +kernel
theorem dX5_inLeastTerms_33 : decode cX5_inLeastTerms 33 = .ok (.ifCond .ne 10, 3) := by decide +kernel
theorem dX5_inLeastTerms_36 : decode cX5_inLeastTerms 36 = .ok (.lload_n 0, 1) := by decide +kernel
theorem dX5_inLeastTerms_37 : decode cX5_inLeastTerms 37 = .ok (.lload 5, 2) := by decide +kernel
theorem dX5_inLeastTerms_39 : decode cX5_inLeastTerms 39 = .ok (.ldiv, 1) := by decide +kernel
theorem dX5_inLeastTerms_40 : decode cX5_inLeastTerms 40 = .ok (.goto 7, 3) := by decide +kernel
theorem dX5_inLeastTerms_43 : decode cX5_inLeastTerms 43 = .ok (.lload_n 2, 1) := by decide +kernel
theorem dX5_inLeastTerms_44 : decode cX5_inLeastTerms 44 = .ok (.lload 5, 2) := by decide +kernel
theorem dX5_inLeastTerms_46 : decode cX5_inLeastTerms 46 = .ok (.ldiv, 1) := by decide +kernel
theorem dX5_inLeastTerms_47 : decode cX5_inLeastTerms 47 = .ok (.lreturn, 1) := by decide +kernel
theorem dX5_odds_0 : decode cX5_odds 0 = .ok (.iload_n 1, 1) := by decide +kernel
theorem dX5_odds_1 : decode cX5_odds 1 = .ok (.iconst 0, 1) := by decide +kernel
theorem dX5_odds_2 : decode cX5_odds 2 = .ok (.iconst 1, 1) := by decide +kernel
theorem dX5_odds_3 : decode cX5_odds 3 = .ok (.invokestatic 49, 3) := by decide +kernel
theorem dX5_odds_6 : decode cX5_odds 6 = .ok (.ifCond .eq 10, 3) := by decide +kernel
theorem dX5_odds_9 : decode cX5_odds 9 = .ok (.aload_n 0, 1) := by decide +kernel
theorem dX5_odds_10 : decode cX5_odds 10 = .ok (.getfield 53, 3) := by decide +kernel
theorem dX5_odds_13 : decode cX5_odds 13 = .ok (.ifCond .ne 7, 3) := by decide +kernel
theorem dX5_odds_16 : decode cX5_odds 16 = .ok (.ldc2_w 47, 3) := by decide +kernel
theorem dX5_odds_19 : decode cX5_odds 19 = .ok (.lreturn, 1) := by decide +kernel
theorem dX5_odds_20 : decode cX5_odds 20 = .ok (.aload_n 0, 1) := by decide +kernel
theorem dX5_odds_21 : decode cX5_odds 21 = .ok (.iconst 0, 1) := by decide +kernel
theorem dX5_odds_22 : decode cX5_odds 22 = .ok (.invokevirtual 129, 3) := by decide +kernel
theorem dX5_odds_25 : decode cX5_odds 25 = .ok (.istore_n 2, 1) := by decide +kernel
theorem dX5_odds_26 : decode cX5_odds 26 = .ok (.iconst 0, 1) := by decide +kernel
theorem dX5_odds_27 : decode cX5_odds 27 = .ok (.istore_n 3, 1) := by decide +kernel
theorem dX5_odds_28 : decode cX5_odds 28 = .ok (.iconst 0, 1) := by decide +kernel
theorem dX5_odds_29 : decode cX5_odds 29 = .ok (.istore 4, 2) := by decide +kernel
theorem dX5_odds_31 : decode cX5_odds 31 = .ok (.iconst 0, 1) := by decide +kernel
theorem dX5_odds_32 : decode cX5_odds 32 = .ok (.istore 5, 2) := by decide +kernel
theorem dX5_odds_34 : decode cX5_odds 34 = .ok (.iload 5, 2) := by decide +kernel
theorem dX5_odds_36 : decode cX5_odds 36 = .ok (.iconst 1, 1) := by decide +kernel
theorem dX5_odds_37 : decode cX5_odds 37 = .ok (.aload_n 0, 1) := by decide +kernel
theorem dX5_odds_38 : decode cX5_odds 38 = .ok (.invokevirtual 59, 3) := by decide +kernel
theorem dX5_odds_41 : decode cX5_odds 41 = .ok (.ishl, 1) := by decide +kernel
theorem dX5_odds_42 : decode cX5_odds 42 = .ok (.if_icmp .ge 37, 3) := by decide +kernel
theorem dX5_odds_45 : decode cX5_odds 45 = .ok (.iload 5, 2) := by decide +kernel
theorem dX5_odds_47 : decode cX5_odds 47 = .ok (.iload_n 2, 1) := by decide +kernel
theorem dX5_odds_48 : decode cX5_odds 48 = .ok (.iand, 1) := by decide +kernel
theorem dX5_odds_49 : decode cX5_odds 49 = .ok (.iload_n 2, 1) := by decide +kernel
theorem dX5_odds_50 : decode cX5_odds 50 = .ok (.if_icmp .ne 23, 3) := by decide +kernel
theorem dX5_odds_53 : decode cX5_odds 53 = .ok (.iinc 4 1, 3) := by decide +kernel
theorem dX5_odds_56 : decode cX5_odds 56 = .ok (.iload_n 3, 1) := by decide +kernel
theorem dX5_odds_57 : decode cX5_odds 57 = .ok (.aload_n 0, 1) := by decide +kernel
theorem dX5_odds_58 : decode cX5_odds 58 = .ok (.iload 5, 2) := by decide +kernel
theorem dX5_odds_60 : decode cX5_odds 60 = .ok (.invokevirtual 151, 3) := by decide +kernel
theorem dX5_odds_63 : decode cX5_odds 63 = .ok (.ifCond .eq 7, 3) := by decide +kernel
theorem dX5_odds_66 : decode cX5_odds 66 = .ok (.iconst 1, 1) := by decide +kernel
theorem dX5_odds_67 : decode cX5_odds 67 = .ok (.goto 4, 3) := by decide +kernel
theorem dX5_odds_70 : decode cX5_odds 70 = .ok (.iconst 0, 1) := by decide +kernel
theorem dX5_odds_71 : decode cX5_odds 71 = .ok (.iadd, 1) := by decide +kernel
theorem dX5_odds_72 : decode cX5_odds 72 = .ok (.istore_n 3, 1) := by decide +kernel
theorem dX5_odds_73 : decode cX5_odds 73 = .ok (.iinc 5 1, 3) := by decide +kernel
theorem dX5_odds_76 : decode cX5_odds 76 = .ok (.goto (-42), 3) := by decide +kernel
theorem dX5_odds_79 : decode cX5_odds 79 = .ok (.iload_n 3, 1) := by decide +kernel
theorem dX5_odds_80 : decode cX5_odds 80 = .ok (.i2l, 1) := by decide +kernel
theorem dX5_odds_81 : decode cX5_odds 81 = .ok (.iload 4, 2) := by decide +kernel
theorem dX5_odds_83 : decode cX5_odds 83 = .ok (.i2l, 1) := by decide +kernel
theorem dX5_odds_84 : decode cX5_odds 84 = .ok (.iload_n 1, 1) := by decide +kernel
theorem dX5_odds_85 : decode cX5_odds 85 = .ok (.invokestatic 188, 3) := by decide +kernel
theorem dX5_odds_88 : decode cX5_odds 88 = .ok (.lreturn, 1) := by decide +kernel
theorem dX5_sheet_0 : decode cX5_sheet 0 = .ok (.aload_n 0, 1) := by decide +kernel
theorem dX5_sheet_1 : decode cX5_sheet 1 = .ok (.iconst 0, 1) := by decide +kernel
theorem dX5_sheet_2 : decode cX5_sheet 2 = .ok (.putfield 43, 3) := by decide +kernel
theorem dX5_sheet_5 : decode cX5_sheet 5 = .ok (.iload_n 1, 1) := by decide +kernel
theorem dX5_sheet_6 : decode cX5_sheet 6 = .ok (.invokestatic 66, 3) := by decide +kernel
theorem dX5_sheet_9 : decode cX5_sheet 9 = .ok (.ifCond .ne 5, 3) := by decide +kernel
theorem dX5_sheet_12 : decode cX5_sheet 12 = .ok (.iconst (-1), 1) := by decide +kernel
theorem dX5_sheet_13 : decode cX5_sheet 13 = .ok (.ireturn, 1) := by decide +kernel
theorem dX5_sheet_14 : decode cX5_sheet 14 = .ok (.iload_n 2, 1) := by decide +kernel
theorem dX5_sheet_15 : decode cX5_sheet 15 = .ok (.invokestatic 70, 3) := by decide +kernel
theorem dX5_sheet_18 : decode cX5_sheet 18 = .ok (.ifCond .eq 9, 3) := by decide +kernel
theorem dX5_sheet_21 : decode cX5_sheet 21 = .ok (.iload_n 3, 1) := by decide +kernel
theorem dX5_sheet_22 : decode cX5_sheet 22 = .ok (.bipush 60, 2) := by decide +kernel
theorem dX5_sheet_24 : decode cX5_sheet 24 = .ok (.if_icmp .le 6, 3) := by decide +kernel
theorem dX5_sheet_27 : decode cX5_sheet 27 = .ok (.bipush (-2), 2) := by decide +kernel
theorem dX5_sheet_29 : decode cX5_sheet 29 = .ok (.ireturn, 1) := by decide +kernel
theorem dX5_sheet_30 : decode cX5_sheet 30 = .ok (.iload_n 3, 1) := by decide +kernel
theorem dX5_sheet_31 : decode cX5_sheet 31 = .ok (.ifCond .ge 9, 3) := by decide +kernel
theorem dX5_sheet_34 : decode cX5_sheet 34 = .ok (.aload_n 0, 1) := by decide +kernel
theorem dX5_sheet_35 : decode cX5_sheet 35 = .ok (.iconst 4, 1) := by decide +kernel
theorem dX5_sheet_36 : decode cX5_sheet 36 = .ok (.invokevirtual 77, 3) := by decide +kernel
theorem dX5_sheet_39 : decode cX5_sheet 39 = .ok (.ireturn, 1) := by decide +kernel
theorem dX5_sheet_40 : decode cX5_sheet 40 = .ok (.aload_n 0, 1) := by decide +kernel
theorem dX5_sheet_41 : decode cX5_sheet 41 = .ok (.getfield 9, 3) := by decide +kernel
theorem dX5_sheet_44 : decode cX5_sheet 44 = .ok (.iload_n 1, 1) := by decide +kernel
theorem dX5_sheet_45 : decode cX5_sheet 45 = .ok (.iload_n 2, 1) := by decide +kernel
theorem dX5_sheet_46 : decode cX5_sheet 46 = .ok (.iastore, 1) := by decide +kernel
theorem dX5_sheet_47 : decode cX5_sheet 47 = .ok (.aload_n 0, 1) := by decide +kernel
theorem dX5_sheet_48 : decode cX5_sheet 48 = .ok (.getfield 13, 3) := by decide +kernel
theorem dX5_sheet_51 : decode cX5_sheet 51 = .ok (.iload_n 1, 1) := by decide +kernel
theorem dX5_sheet_52 : decode cX5_sheet 52 = .ok (.iload_n 3, 1) := by decide +kernel
theorem dX5_sheet_53 : decode cX5_sheet 53 = .ok (.iastore, 1) := by decide +kernel
theorem dX5_sheet_54 : decode cX5_sheet 54 = .ok (.iconst 0, 1) := by decide +kernel
theorem dX5_sheet_55 : decode cX5_sheet 55 = .ok (.istore 4, 2) := by decide +kernel
theorem dX5_sheet_57 : decode cX5_sheet 57 = .ok (.iload 4, 2) := by decide +kernel
theorem dX5_sheet_59 : decode cX5_sheet 59 = .ok (.bipush 60, 2) := by decide +kernel
theorem dX5_sheet_61 : decode cX5_sheet 61 = .ok (.if_icmp .ge 22, 3) := by decide +kernel
theorem dX5_sheet_64 : decode cX5_sheet 64 = .ok (.aload_n 0, 1) := by decide +kernel
theorem dX5_sheet_65 : decode cX5_sheet 65 = .ok (.getfield 16, 3) := by decide +kernel
theorem dX5_sheet_68 : decode cX5_sheet 68 = .ok (.bipush 60, 2) := by decide +kernel
theorem dX5_sheet_70 : decode cX5_sheet 70 = .ok (.iload_n 1, 1) := by decide +kernel
theorem dX5_sheet_71 : decode cX5_sheet 71 = .ok (.imul, 1) := by decide +kernel
theorem dX5_sheet_72 : decode cX5_sheet 72 = .ok (.iload 4, 2) := by decide +kernel
theorem dX5_sheet_74 : decode cX5_sheet 74 = .ok (.iadd, 1) := by decide +kernel
theorem dX5_sheet_75 : decode cX5_sheet 75 = .ok (.iconst 0, 1) := by decide +kernel
theorem dX5_sheet_76 : decode cX5_sheet 76 = .ok (.iastore, 1) := by decide +kernel
theorem dX5_sheet_77 : decode cX5_sheet 77 = .ok (.iinc 4 1, 3) := by decide +kernel
theorem dX5_sheet_80 : decode cX5_sheet 80 = .ok (.goto (-23), 3) := by decide +kernel
theorem dX5_sheet_83 : decode cX5_sheet 83 = .ok (.iconst 1, 1) := by decide +kernel
theorem dX5_sheet_84 : decode cX5_sheet 84 = .ok (.ireturn, 1) := by decide +kernel
theorem dX5_lose_0 : decode cX5_lose 0 = .ok (.iload_n 1, 1) := by decide +kernel
theorem dX5_lose_1 : decode cX5_lose 1 = .ok (.invokestatic 66, 3) := by decide +kernel
theorem dX5_lose_4 : decode cX5_lose 4 = .ok (.ifCond .ne 5, 3) := by decide +kernel
theorem dX5_lose_7 : decode cX5_lose 7 = .ok (.iconst (-1), 1) := by decide +kernel
theorem dX5_lose_8 : decode cX5_lose 8 = .ok (.ireturn, 1) := by decide +kernel
theorem dX5_lose_9 : decode cX5_lose 9 = .ok (.aload_n 0, 1) := by decide +kernel
theorem dX5_lose_10 : decode cX5_lose 10 = .ok (.getfield 9, 3) := by decide +kernel
theorem dX5_lose_13 : decode cX5_lose 13 = .ok (.iload_n 1, 1) := by decide +kernel
theorem dX5_lose_14 : decode cX5_lose 14 = .ok (.iaload, 1) := by decide +kernel
theorem dX5_lose_15 : decode cX5_lose 15 = .ok (.bipush (-9), 2) := by decide +kernel
theorem dX5_lose_17 : decode cX5_lose 17 = .ok (.if_icmp .ne 7, 3) := by decide +kernel
theorem dX5_lose_20 : decode cX5_lose 20 = .ok (.iconst 0, 1) := by decide +kernel
theorem dX5_lose_21 : decode cX5_lose 21 = .ok (.goto 4, 3) := by decide +kernel
theorem dX5_lose_24 : decode cX5_lose 24 = .ok (.iconst 1, 1) := by decide +kernel
theorem dX5_lose_25 : decode cX5_lose 25 = .ok (.istore_n 2, 1) := by decide +kernel
theorem dX5_lose_26 : decode cX5_lose 26 = .ok (.aload_n 0, 1) := by decide +kernel
theorem dX5_lose_27 : decode cX5_lose 27 = .ok (.getfield 9, 3) := by decide +kernel
theorem dX5_lose_30 : decode cX5_lose 30 = .ok (.iload_n 1, 1) := by decide +kernel
theorem dX5_lose_31 : decode cX5_lose 31 = .ok (.bipush (-9), 2) := by decide +kernel
theorem dX5_lose_33 : decode cX5_lose 33 = .ok (.iastore, 1) := by decide +kernel
theorem dX5_lose_34 : decode cX5_lose 34 = .ok (.iload_n 2, 1) := by decide +kernel
theorem dX5_lose_35 : decode cX5_lose 35 = .ok (.ireturn, 1) := by decide +kernel
theorem dX5_put_0 : decode cX5_put 0 = .ok (.aload_n 0, 1) := by decide +kernel
theorem dX5_put_1 : decode cX5_put 1 = .ok (.iconst 0, 1) := by decide +kernel
theorem dX5_put_2 : decode cX5_put 2 = .ok (.putfield 43, 3) := by decide +kernel
theorem dX5_put_5 : decode cX5_put 5 = .ok (.iload_n 1, 1) := by decide +kernel
theorem dX5_put_6 : decode cX5_put 6 = .ok (.invokestatic 66, 3) := by decide +kernel
theorem dX5_put_9 : decode cX5_put 9 = .ok (.ifCond .ne 5, 3) := by decide +kernel
theorem dX5_put_12 : decode cX5_put 12 = .ok (.iconst (-1), 1) := by decide +kernel
theorem dX5_put_13 : decode cX5_put 13 = .ok (.ireturn, 1) := by decide +kernel
theorem dX5_put_14 : decode cX5_put 14 = .ok (.aload_n 0, 1) := by decide +kernel
theorem dX5_put_15 : decode cX5_put 15 = .ok (.getfield 9, 3) := by decide +kernel
theorem dX5_put_18 : decode cX5_put 18 = .ok (.iload_n 1, 1) := by decide +kernel
theorem dX5_put_19 : decode cX5_put 19 = .ok (.iaload, 1) := by decide +kernel
theorem dX5_put_20 : decode cX5_put 20 = .ok (.bipush (-9), 2) := by decide +kernel
theorem dX5_put_22 : decode cX5_put 22 = .ok (.if_icmp .ne 9, 3) := by decide +kernel
theorem dX5_put_25 : decode cX5_put 25 = .ok (.aload_n 0, 1) := by decide +kernel
theorem dX5_put_26 : decode cX5_put 26 = .ok (.iconst 1, 1) := by decide +kernel
theorem dX5_put_27 : decode cX5_put 27 = .ok (.invokevirtual 77, 3) := by decide +kernel
theorem dX5_put_30 : decode cX5_put 30 = .ok (.ireturn, 1) := by decide +kernel
theorem dX5_put_31 : decode cX5_put 31 = .ok (.iload_n 2, 1) := by decide +kernel
theorem dX5_put_32 : decode cX5_put 32 = .ok (.iconst 0, 1) := by decide +kernel
theorem dX5_put_33 : decode cX5_put 33 = .ok (.aload_n 0, 1) := by decide +kernel
theorem dX5_put_34 : decode cX5_put 34 = .ok (.getfield 13, 3) := by decide +kernel
theorem dX5_put_37 : decode cX5_put 37 = .ok (.iload_n 1, 1) := by decide +kernel
theorem dX5_put_38 : decode cX5_put 38 = .ok (.iaload, 1) := by decide +kernel
theorem dX5_put_39 : decode cX5_put 39 = .ok (.iconst 1, 1) := by decide +kernel
theorem dX5_put_40 : decode cX5_put 40 = .ok (.isub, 1) := by decide +kernel
theorem dX5_put_41 : decode cX5_put 41 = .ok (.invokestatic 49, 3) := by decide +kernel
theorem dX5_put_44 : decode cX5_put 44 = .ok (.ifCond .ne 9, 3) := by decide +kernel
theorem dX5_put_47 : decode cX5_put 47 = .ok (.aload_n 0, 1) := by decide +kernel
theorem dX5_put_48 : decode cX5_put 48 = .ok (.iconst 3, 1) := by decide +kernel
theorem dX5_put_49 : decode cX5_put 49 = .ok (.invokevirtual 77, 3) := by decide +kernel
theorem dX5_put_52 : decode cX5_put 52 = .ok (.ireturn, 1) := by decide +kernel
theorem dX5_put_53 : decode cX5_put 53 = .ok (.aload_n 0, 1) := by decide +kernel
theorem dX5_put_54 : decode cX5_put 54 = .ok (.getfield 16, 3) := by decide +kernel
theorem dX5_put_57 : decode cX5_put 57 = .ok (.bipush 60, 2) := by decide +kernel
theorem dX5_put_59 : decode cX5_put 59 = .ok (.iload_n 1, 1) := by decide +kernel
theorem dX5_put_60 : decode cX5_put 60 = .ok (.imul, 1) := by decide +kernel
theorem dX5_put_61 : decode cX5_put 61 = .ok (.iload_n 2, 1) := by decide +kernel
theorem dX5_put_62 : decode cX5_put 62 = .ok (.iadd, 1) := by decide +kernel
theorem dX5_put_63 : decode cX5_put 63 = .ok (.aload_n 0, 1) := by decide +kernel
theorem dX5_put_64 : decode cX5_put 64 = .ok (.getfield 9, 3) := by decide +kernel
theorem dX5_put_67 : decode cX5_put 67 = .ok (.iload_n 1, 1) := by decide +kernel
theorem dX5_put_68 : decode cX5_put 68 = .ok (.iaload, 1) := by decide +kernel
theorem dX5_put_69 : decode cX5_put 69 = .ok (.ifCond .ne 8, 3) := by decide +kernel
theorem dX5_put_72 : decode cX5_put 72 = .ok (.iload_n 3, 1) := by decide +kernel
theorem dX5_put_73 : decode cX5_put 73 = .ok (.i2b, 1) := by decide +kernel
theorem dX5_put_74 : decode cX5_put 74 = .ok (.goto 19, 3) := by decide +kernel
theorem dX5_put_77 : decode cX5_put 77 = .ok (.aload_n 0, 1) := by decide +kernel
theorem dX5_put_78 : decode cX5_put 78 = .ok (.getfield 9, 3) := by decide +kernel
theorem dX5_put_81 : decode cX5_put 81 = .ok (.iload_n 1, 1) := by decide +kernel
theorem dX5_put_82 : decode cX5_put 82 = .ok (.iaload, 1) := by decide +kernel
theorem dX5_put_83 : decode cX5_put 83 = .ok (.iconst 1, 1) := by decide +kernel
theorem dX5_put_84 : decode cX5_put 84 = .ok (.if_icmp .ne 8, 3) := by decide +kernel
theorem dX5_put_87 : decode cX5_put 87 = .ok (.iload_n 3, 1) := by decide +kernel
theorem dX5_put_88 : decode cX5_put 88 = .ok (.i2s, 1) := by decide +kernel
theorem dX5_put_89 : decode cX5_put 89 = .ok (.goto 4, 3) := by decide +kernel
theorem dX5_put_92 : decode cX5_put 92 = .ok (.iload_n 3, 1) := by decide +kernel
theorem dX5_put_93 : decode cX5_put 93 = .ok (.iastore, 1) := by decide +kernel
theorem dX5_put_94 : decode cX5_put 94 = .ok (.iconst 1, 1) := by decide +kernel
theorem dX5_put_95 : decode cX5_put 95 = .ok (.ireturn, 1) := by decide +kernel
theorem dX5_cell_0 : decode cX5_cell 0 = .ok (.aload_n 0, 1) := by decide +kernel
theorem dX5_cell_1 : decode cX5_cell 1 = .ok (.iconst 0, 1) := by decide +kernel
theorem dX5_cell_2 : decode cX5_cell 2 = .ok (.putfield 43, 3) := by decide +kernel
theorem dX5_cell_5 : decode cX5_cell 5 = .ok (.iload_n 1, 1) := by decide +kernel
theorem dX5_cell_6 : decode cX5_cell 6 = .ok (.invokestatic 66, 3) := by decide +kernel
theorem dX5_cell_9 : decode cX5_cell 9 = .ok (.ifCond .eq 10, 3) := by decide +kernel
theorem dX5_cell_12 : decode cX5_cell 12 = .ok (.iload_n 3, 1) := by decide +kernel
theorem dX5_cell_13 : decode cX5_cell 13 = .ok (.invokestatic 70, 3) := by decide +kernel
theorem dX5_cell_16 : decode cX5_cell 16 = .ok (.ifCond .ne 7, 3) := by decide +kernel
theorem dX5_cell_19 : decode cX5_cell 19 = .ok (.ldc2_w 47, 3) := by decide +kernel
theorem dX5_cell_22 : decode cX5_cell 22 = .ok (.lreturn, 1) := by decide +kernel
theorem dX5_cell_23 : decode cX5_cell 23 = .ok (.aload_n 0, 1) := by decide +kernel
theorem dX5_cell_24 : decode cX5_cell 24 = .ok (.getfield 9, 3) := by decide +kernel
theorem dX5_cell_27 : decode cX5_cell 27 = .ok (.iload_n 1, 1) := by decide +kernel
theorem dX5_cell_28 : decode cX5_cell 28 = .ok (.iaload, 1) := by decide +kernel
theorem dX5_cell_29 : decode cX5_cell 29 = .ok (.bipush (-9), 2) := by decide +kernel
theorem dX5_cell_31 : decode cX5_cell 31 = .ok (.if_icmp .eq 19, 3) := by decide +kernel
theorem dX5_cell_34 : decode cX5_cell 34 = .ok (.aload_n 0, 1) := by decide +kernel
theorem dX5_cell_35 : decode cX5_cell 35 = .ok (.getfield 9, 3) := by decide +kernel
theorem dX5_cell_38 : decode cX5_cell 38 = .ok (.iload_n 1, 1) := by decide +kernel
theorem dX5_cell_39 : decode cX5_cell 39 = .ok (.iaload, 1) := by decide +kernel
theorem dX5_cell_40 : decode cX5_cell 40 = .ok (.iload_n 3, 1) := by decide +kernel
theorem dX5_cell_41 : decode cX5_cell 41 = .ok (.if_icmp .eq 9, 3) := by decide +kernel
theorem dX5_cell_44 : decode cX5_cell 44 = .ok (.aload_n 0, 1) := by decide +kernel
theorem dX5_cell_45 : decode cX5_cell 45 = .ok (.iconst 2, 1) := by decide +kernel
theorem dX5_cell_46 : decode cX5_cell 46 = .ok (.invokevirtual 192, 3) := by decide +kernel
theorem dX5_cell_49 : decode cX5_cell 49 = .ok (.lreturn, 1) := by decide +kernel
theorem dX5_cell_50 : decode cX5_cell 50 = .ok (.aload_n 0, 1) := by decide +kernel
theorem dX5_cell_51 : decode cX5_cell 51 = .ok (.getfield 9, 3) := by decide +kernel
theorem dX5_cell_54 : decode cX5_cell 54 = .ok (.iload_n 1, 1) := by decide +kernel
theorem dX5_cell_55 : decode cX5_cell 55 = .ok (.iaload, 1) := by decide +kernel
theorem dX5_cell_56 : decode cX5_cell 56 = .ok (.bipush (-9), 2) := by decide +kernel
theorem dX5_cell_58 : decode cX5_cell 58 = .ok (.if_icmp .ne 9, 3) := by decide +kernel
theorem dX5_cell_61 : decode cX5_cell 61 = .ok (.aload_n 0, 1) := by decide +kernel
theorem dX5_cell_62 : decode cX5_cell 62 = .ok (.iconst 1, 1) := by decide +kernel
theorem dX5_cell_63 : decode cX5_cell 63 = .ok (.invokevirtual 192, 3) := by decide +kernel
theorem dX5_cell_66 : decode cX5_cell 66 = .ok (.lreturn, 1) := by decide +kernel
theorem dX5_cell_67 : decode cX5_cell 67 = .ok (.iload_n 2, 1) := by decide +kernel
theorem dX5_cell_68 : decode cX5_cell 68 = .ok (.iconst 0, 1) := by decide +kernel
theorem dX5_cell_69 : decode cX5_cell 69 = .ok (.aload_n 0, 1) := by decide +kernel
theorem dX5_cell_70 : decode cX5_cell 70 = .ok (.getfield 13, 3) := by decide +kernel
theorem dX5_cell_73 : decode cX5_cell 73 = .ok (.iload_n 1, 1) := by decide +kernel
theorem dX5_cell_74 : decode cX5_cell 74 = .ok (.iaload, 1) := by decide +kernel
theorem dX5_cell_75 : decode cX5_cell 75 = .ok (.iconst 1, 1) := by decide +kernel
theorem dX5_cell_76 : decode cX5_cell 76 = .ok (.isub, 1) := by decide +kernel
theorem dX5_cell_77 : decode cX5_cell 77 = .ok (.invokestatic 49, 3) := by decide +kernel
theorem dX5_cell_80 : decode cX5_cell 80 = .ok (.ifCond .ne 9, 3) := by decide +kernel
theorem dX5_cell_83 : decode cX5_cell 83 = .ok (.aload_n 0, 1) := by decide +kernel
theorem dX5_cell_84 : decode cX5_cell 84 = .ok (.iconst 3, 1) := by decide +kernel
theorem dX5_cell_85 : decode cX5_cell 85 = .ok (.invokevirtual 192, 3) := by decide +kernel
theorem dX5_cell_88 : decode cX5_cell 88 = .ok (.lreturn, 1) := by decide +kernel
theorem dX5_cell_89 : decode cX5_cell 89 = .ok (.aload_n 0, 1) := by decide +kernel
theorem dX5_cell_90 : decode cX5_cell 90 = .ok (.getfield 16, 3) := by decide +kernel
theorem dX5_cell_93 : decode cX5_cell 93 = .ok (.bipush 60, 2) := by decide +kernel
theorem dX5_cell_95 : decode cX5_cell 95 = .ok (.iload_n 1, 1) := by decide +kernel
theorem dX5_cell_96 : decode cX5_cell 96 = .ok (.imul, 1) := by decide +kernel
theorem dX5_cell_97 : decode cX5_cell 97 = .ok (.iload_n 2, 1) := by decide +kernel
theorem dX5_cell_98 : decode cX5_cell 98 = .ok (.iadd, 1) := by decide +kernel
theorem dX5_cell_99 : decode cX5_cell 99 = .ok (.iaload, 1) := by decide +kernel
theorem dX5_cell_100 : decode cX5_cell 100 = .ok (.i2l, 1) := by decide +kernel
theorem dX5_cell_101 : decode cX5_cell 101 = .ok (.lreturn, 1) := by decide +kernel
theorem dX5_copy_0 : decode cX5_copy 0 = .ok (.aload_n 0, 1) := by decide +kernel
theorem dX5_copy_1 : decode cX5_copy 1 = .ok (.iconst 0, 1) := by decide +kernel
theorem dX5_copy_2 : decode cX5_copy 2 = .ok (.putfield 43, 3) := by decide +kernel
theorem dX5_copy_5 : decode cX5_copy 5 = .ok (.iload_n 1, 1) := by decide +kernel
theorem dX5_copy_6 : decode cX5_copy 6 = .ok (.invokestatic 66, 3) := by decide +kernel
theorem dX5_copy_9 : decode cX5_copy 9 = .ok (.ifCond .eq 10, 3) := by decide +kernel
theorem dX5_copy_12 : decode cX5_copy 12 = .ok (.iload_n 3, 1) := by decide +kernel
theorem dX5_copy_13 : decode cX5_copy 13 = .ok (.invokestatic 66, 3) := by decide +kernel
theorem dX5_copy_16 : decode cX5_copy 16 = .ok (.ifCond .ne 5, 3) := by decide +kernel
theorem dX5_copy_19 : decode cX5_copy 19 = .ok (.iconst (-1), 1) := by decide +kernel
theorem dX5_copy_20 : decode cX5_copy 20 = .ok (.ireturn, 1) := by decide +kernel
theorem dX5_copy_21 : decode cX5_copy 21 = .ok (.aload_n 0, 1) := by decide +kernel
theorem dX5_copy_22 : decode cX5_copy 22 = .ok (.getfield 9, 3) := by decide +kernel
theorem dX5_copy_25 : decode cX5_copy 25 = .ok (.iload_n 1, 1) := by decide +kernel
theorem dX5_copy_26 : decode cX5_copy 26 = .ok (.iaload, 1) := by decide +kernel
theorem dX5_copy_27 : decode cX5_copy 27 = .ok (.bipush (-9), 2) := by decide +kernel
theorem dX5_copy_29 : decode cX5_copy 29 = .ok (.if_icmp .eq 14, 3) := by decide +kernel
theorem dX5_copy_32 : decode cX5_copy 32 = .ok (.aload_n 0, 1) := by decide +kernel
theorem dX5_copy_33 : decode cX5_copy 33 = .ok (.getfield 9, 3) := by decide +kernel
theorem dX5_copy_36 : decode cX5_copy 36 = .ok (.iload_n 3, 1) := by decide +kernel
theorem dX5_copy_37 : decode cX5_copy 37 = .ok (.iaload, 1) := by decide +kernel
theorem dX5_copy_38 : decode cX5_copy 38 = .ok (.bipush (-9), 2) := by decide +kernel
theorem dX5_copy_40 : decode cX5_copy 40 = .ok (.if_icmp .ne 9, 3) := by decide +kernel
theorem dX5_copy_43 : decode cX5_copy 43 = .ok (.aload_n 0, 1) := by decide +kernel
theorem dX5_copy_44 : decode cX5_copy 44 = .ok (.iconst 1, 1) := by decide +kernel
theorem dX5_copy_45 : decode cX5_copy 45 = .ok (.invokevirtual 77, 3) := by decide +kernel
theorem dX5_copy_48 : decode cX5_copy 48 = .ok (.ireturn, 1) := by decide +kernel
theorem dX5_copy_49 : decode cX5_copy 49 = .ok (.aload_n 0, 1) := by decide +kernel
theorem dX5_copy_50 : decode cX5_copy 50 = .ok (.getfield 9, 3) := by decide +kernel
theorem dX5_copy_53 : decode cX5_copy 53 = .ok (.iload_n 1, 1) := by decide +kernel
theorem dX5_copy_54 : decode cX5_copy 54 = .ok (.iaload, 1) := by decide +kernel
theorem dX5_copy_55 : decode cX5_copy 55 = .ok (.aload_n 0, 1) := by decide +kernel
theorem dX5_copy_56 : decode cX5_copy 56 = .ok (.getfield 9, 3) := by decide +kernel
theorem dX5_copy_59 : decode cX5_copy 59 = .ok (.iload_n 3, 1) := by decide +kernel
theorem dX5_copy_60 : decode cX5_copy 60 = .ok (.iaload, 1) := by decide +kernel
theorem dX5_copy_61 : decode cX5_copy 61 = .ok (.if_icmp .eq 9, 3) := by decide +kernel
theorem dX5_copy_64 : decode cX5_copy 64 = .ok (.aload_n 0, 1) := by decide +kernel
theorem dX5_copy_65 : decode cX5_copy 65 = .ok (.iconst 2, 1) := by decide +kernel
theorem dX5_copy_66 : decode cX5_copy 66 = .ok (.invokevirtual 77, 3) := by decide +kernel
theorem dX5_copy_69 : decode cX5_copy 69 = .ok (.ireturn, 1) := by decide +kernel
theorem dX5_copy_70 : decode cX5_copy 70 = .ok (.iload_n 2, 1) := by decide +kernel
theorem dX5_copy_71 : decode cX5_copy 71 = .ok (.ifCond .lt 38, 3) := by decide +kernel
theorem dX5_copy_74 : decode cX5_copy 74 = .ok (.iload 4, 2) := by decide +kernel
theorem dX5_copy_76 : decode cX5_copy 76 = .ok (.ifCond .lt 33, 3) := by decide +kernel
theorem dX5_copy_79 : decode cX5_copy 79 = .ok (.iload 5, 2) := by decide +kernel
theorem dX5_copy_81 : decode cX5_copy 81 = .ok (.ifCond .lt 28, 3) := by decide +kernel
theorem dX5_copy_84 : decode cX5_copy 84 = .ok (.iload_n 2, 1) := by decide +kernel
theorem dX5_copy_85 : decode cX5_copy 85 = .ok (.aload_n 0, 1) := by decide +kernel
theorem dX5_copy_86 : decode cX5_copy 86 = .ok (.getfield 13, 3) := by decide +kernel
theorem dX5_copy_89 : decode cX5_copy 89 = .ok (.iload_n 1, 1) := by decide +kernel
theorem dX5_copy_90 : decode cX5_copy 90 = .ok (.iaload, 1) := by decide +kernel
theorem dX5_copy_91 : decode cX5_copy 91 = .ok (.if_icmp .gt 18, 3) := by decide +kernel
theorem dX5_copy_94 : decode cX5_copy 94 = .ok (.iload 4, 2) := by decide +kernel
theorem dX5_copy_96 : decode cX5_copy 96 = .ok (.aload_n 0, 1) := by decide +kernel
theorem dX5_copy_97 : decode cX5_copy 97 = .ok (.getfield 13, 3) := by decide +kernel
theorem dX5_copy_100 : decode cX5_copy 100 = .ok (.iload_n 3, 1) := by decide +kernel
theorem dX5_copy_101 : decode cX5_copy 101 = .ok (.iaload, 1) := by decide +kernel
theorem dX5_copy_102 : decode cX5_copy 102 = .ok (.if_icmp .gt 7, 3) := by decide +kernel
theorem dX5_copy_105 : decode cX5_copy 105 = .ok (.iconst 1, 1) := by decide +kernel
theorem dX5_copy_106 : decode cX5_copy 106 = .ok (.goto 4, 3) := by decide +kernel
theorem dX5_copy_109 : decode cX5_copy 109 = .ok (.iconst 0, 1) := by decide +kernel
theorem dX5_copy_110 : decode cX5_copy 110 = .ok (.istore 6, 2) := by decide +kernel
theorem dX5_copy_112 : decode cX5_copy 112 = .ok (.iload 6, 2) := by decide +kernel
theorem dX5_copy_114 : decode cX5_copy 114 = .ok (.ifCond .eq 30, 3) := by decide +kernel
theorem dX5_copy_117 : decode cX5_copy 117 = .ok (.iload 5, 2) := by decide +kernel
theorem dX5_copy_119 : decode cX5_copy 119 = .ok (.aload_n 0, 1) := by decide +kernel
theorem dX5_copy_120 : decode cX5_copy 120 = .ok (.getfield 13, 3) := by decide +kernel
theorem dX5_copy_123 : decode cX5_copy 123 = .ok (.iload_n 1, 1) := by decide +kernel
theorem dX5_copy_124 : decode cX5_copy 124 = .ok (.iaload, 1) := by decide +kernel
theorem dX5_copy_125 : decode cX5_copy 125 = .ok (.iload_n 2, 1) := by decide +kernel
theorem dX5_copy_126 : decode cX5_copy 126 = .ok (.isub, 1) := by decide +kernel
theorem dX5_copy_127 : decode cX5_copy 127 = .ok (.if_icmp .gt 17, 3) := by decide +kernel
theorem dX5_copy_130 : decode cX5_copy 130 = .ok (.iload 5, 2) := by decide +kernel
theorem dX5_copy_132 : decode cX5_copy 132 = .ok (.aload_n 0, 1) := by decide +kernel
theorem dX5_copy_133 : decode cX5_copy 133 = .ok (.getfield 13, 3) := by decide +kernel
theorem dX5_copy_136 : decode cX5_copy 136 = .ok (.iload_n 3, 1) := by decide +kernel
theorem dX5_copy_137 : decode cX5_copy 137 = .ok (.iaload, 1) := by decide +kernel
theorem dX5_copy_138 : decode cX5_copy 138 = .ok (.iload 4, 2) := by decide +kernel
theorem dX5_copy_140 : decode cX5_copy 140 = .ok (.isub, 1) := by decide +kernel
theorem dX5_copy_141 : decode cX5_copy 141 = .ok (.if_icmp .le 9, 3) := by decide +kernel
theorem dX5_copy_144 : decode cX5_copy 144 = .ok (.aload_n 0, 1) := by decide +kernel
theorem dX5_copy_145 : decode cX5_copy 145 = .ok (.iconst 3, 1) := by decide +kernel
theorem dX5_copy_146 : decode cX5_copy 146 = .ok (.invokevirtual 77, 3) := by decide +kernel
theorem dX5_copy_149 : decode cX5_copy 149 = .ok (.ireturn, 1) := by decide +kernel
theorem dX5_copy_150 : decode cX5_copy 150 = .ok (.iload_n 2, 1) := by decide +kernel
theorem dX5_copy_151 : decode cX5_copy 151 = .ok (.iload 4, 2) := by decide +kernel
theorem dX5_copy_153 : decode cX5_copy 153 = .ok (.if_icmp .ge 7, 3) := by decide +kernel
theorem dX5_copy_156 : decode cX5_copy 156 = .ok (.iconst 1, 1) := by decide +kernel
theorem dX5_copy_157 : decode cX5_copy 157 = .ok (.goto 4, 3) := by decide +kernel
theorem dX5_copy_160 : decode cX5_copy 160 = .ok (.iconst 0, 1) := by decide +kernel
theorem dX5_copy_161 : decode cX5_copy 161 = .ok (.istore 7, 2) := by decide +kernel
theorem dX5_copy_163 : decode cX5_copy 163 = .ok (.iconst 0, 1) := by decide +kernel
theorem dX5_copy_164 : decode cX5_copy 164 = .ok (.istore 8, 2) := by decide +kernel
theorem dX5_copy_166 : decode cX5_copy 166 = .ok (.iload 8, 2) := by decide +kernel
theorem dX5_copy_168 : decode cX5_copy 168 = .ok (.iload 5, 2) := by decide +kernel
theorem dX5_copy_170 : decode cX5_copy 170 = .ok (.if_icmp .ge 57, 3) := by decide +kernel
theorem dX5_copy_173 : decode cX5_copy 173 = .ok (.iload 7, 2) := by decide +kernel
theorem dX5_copy_175 : decode cX5_copy 175 = .ok (.ifCond .eq 13, 3) := by decide +kernel
theorem dX5_copy_178 : decode cX5_copy 178 = .ok (.iload 5, 2) := by decide +kernel
theorem dX5_copy_180 : decode cX5_copy 180 = .ok (.iconst 1, 1) := by decide +kernel
theorem dX5_copy_181 : decode cX5_copy 181 = .ok (.isub, 1) := by decide +kernel
theorem dX5_copy_182 : decode cX5_copy 182 = .ok (.iload 8, 2) := by decide +kernel
theorem dX5_copy_184 : decode cX5_copy 184 = .ok (.isub, 1) := by decide +kernel
theorem dX5_copy_185 : decode cX5_copy 185 = .ok (.goto 5, 3) := by decide +kernel
theorem dX5_copy_188 : decode cX5_copy 188 = .ok (.iload 8, 2) := by decide +kernel
theorem dX5_copy_190 : decode cX5_copy 190 = .ok (.istore 9, 2) := by decide +kernel
theorem dX5_copy_192 : decode cX5_copy 192 = .ok (.aload_n 0, 1) := by decide +kernel
theorem dX5_copy_193 : decode cX5_copy 193 = .ok (.getfield 16, 3) := by decide +kernel
theorem dX5_copy_196 : decode cX5_copy 196 = .ok (.bipush 60, 2) := by decide +kernel
theorem dX5_copy_198 : decode cX5_copy 198 = .ok (.iload_n 3, 1) := by decide +kernel
theorem dX5_copy_199 : decode cX5_copy 199 = .ok (.imul, 1) := by decide +kernel
theorem dX5_copy_200 : decode cX5_copy 200 = .ok (.iload 4, 2) := by decide +kernel
theorem dX5_copy_202 : decode cX5_copy 202 = .ok (.iadd, 1) := by decide +kernel
theorem dX5_copy_203 : decode cX5_copy 203 = .ok (.iload 9, 2) := by decide +kernel
theorem dX5_copy_205 : decode cX5_copy 205 = .ok (.iadd, 1) := by decide +kernel
theorem dX5_copy_206 : decode cX5_copy 206 = .ok (.aload_n 0, 1) := by decide +kernel
theorem dX5_copy_207 : decode cX5_copy 207 = .ok (.getfield 16, 3) := by decide +kernel
theorem dX5_copy_210 : decode cX5_copy 210 = .ok (.bipush 60, 2) := by decide +kernel
theorem dX5_copy_212 : decode cX5_copy 212 = .ok (.iload_n 1, 1) := by decide +kernel
theorem dX5_copy_213 : decode cX5_copy 213 = .ok (.imul, 1) := by decide +kernel
theorem dX5_copy_214 : decode cX5_copy 214 = .ok (.iload_n 2, 1) := by decide +kernel
theorem dX5_copy_215 : decode cX5_copy 215 = .ok (.iadd, 1) := by decide +kernel
theorem dX5_copy_216 : decode cX5_copy 216 = .ok (.iload 9, 2) := by decide +kernel
theorem dX5_copy_218 : decode cX5_copy 218 = .ok (.iadd, 1) := by decide +kernel
theorem dX5_copy_219 : decode cX5_copy 219 = .ok (.iaload, 1) := by decide +kernel
theorem dX5_copy_220 : decode cX5_copy 220 = .ok (.iastore, 1) := by decide +kernel
theorem dX5_copy_221 : decode cX5_copy 221 = .ok (.iinc 8 1, 3) := by decide +kernel
theorem dX5_copy_224 : decode cX5_copy 224 = .ok (.goto (-58), 3) := by decide +kernel
theorem dX5_copy_227 : decode cX5_copy 227 = .ok (.iload 5, 2) := by decide +kernel
theorem dX5_copy_229 : decode cX5_copy 229 = .ok (.ireturn, 1) := by decide +kernel
theorem dX5_begins_0 : decode cX5_begins 0 = .ok (.aload_n 0, 1) := by decide +kernel
theorem dX5_begins_1 : decode cX5_begins 1 = .ok (.bipush 31, 2) := by decide +kernel
theorem dX5_begins_3 : decode cX5_begins 3 = .ok (.aload_n 0, 1) := by decide +kernel
theorem dX5_begins_4 : decode cX5_begins 4 = .ok (.getfield 196, 3) := by decide +kernel
theorem dX5_begins_7 : decode cX5_begins 7 = .ok (.imul, 1) := by decide +kernel
theorem dX5_begins_8 : decode cX5_begins 8 = .ok (.iload_n 1, 1) := by decide +kernel
theorem dX5_begins_9 : decode cX5_begins 9 = .ok (.iadd, 1) := by decide +kernel
theorem dX5_begins_10 : decode cX5_begins 10 = .ok (.putfield 196, 3) := by decide +kernel
theorem dX5_begins_13 : decode cX5_begins 13 = .ok (.return_, 1) := by decide +kernel
theorem dX5_tell_0 : decode cX5_tell 0 = .ok (.aload_n 0, 1) := by decide +kernel
theorem dX5_tell_1 : decode cX5_tell 1 = .ok (.iload_n 1, 1) := by decide +kernel
theorem dX5_tell_2 : decode cX5_tell 2 = .ok (.invokevirtual 132, 3) := by decide +kernel
theorem dX5_tell_5 : decode cX5_tell 5 = .ok (.ifCond .ne 5, 3) := by decide +kernel
theorem dX5_tell_8 : decode cX5_tell 8 = .ok (.iconst (-1), 1) := by decide +kernel
theorem dX5_tell_9 : decode cX5_tell 9 = .ok (.ireturn, 1) := by decide +kernel
theorem dX5_tell_10 : decode cX5_tell 10 = .ok (.aload_n 0, 1) := by decide +kernel
theorem dX5_tell_11 : decode cX5_tell 11 = .ok (.getfield 22, 3) := by decide +kernel
theorem dX5_tell_14 : decode cX5_tell 14 = .ok (.iload_n 1, 1) := by decide +kernel
theorem dX5_tell_15 : decode cX5_tell 15 = .ok (.iaload, 1) := by decide +kernel
theorem dX5_tell_16 : decode cX5_tell 16 = .ok (.istore_n 2, 1) := by decide +kernel
theorem dX5_tell_17 : decode cX5_tell 17 = .ok (.aload_n 0, 1) := by decide +kernel
theorem dX5_tell_18 : decode cX5_tell 18 = .ok (.getfield 19, 3) := by decide +kernel
theorem dX5_tell_21 : decode cX5_tell 21 = .ok (.iload_n 1, 1) := by decide +kernel
theorem dX5_tell_22 : decode cX5_tell 22 = .ok (.iaload, 1) := by decide +kernel
theorem dX5_tell_23 : decode cX5_tell 23 = .ok (.lookupswitch 67 #[(1, 25), (2, 40)], 25) := by decide +kernel
theorem dX5_tell_48 : decode cX5_tell 48 = .ok (.aload_n 0, 1) := by decide +kernel
theorem dX5_tell_49 : decode cX5_tell 49 = .ok (.iconst 2, 1) := by decide +kernel
theorem dX5_tell_50 : decode cX5_tell 50 = .ok (.invokevirtual 199, 3) := by decide +kernel
theorem dX5_tell_53 : decode cX5_tell 53 = .ok (.aload_n 0, 1) := by decide +kernel
theorem dX5_tell_54 : decode cX5_tell 54 = .ok (.iconst 1, 1) := by decide +kernel
theorem dX5_tell_55 : decode cX5_tell 55 = .ok (.invokevirtual 199, 3) := by decide +kernel
theorem dX5_tell_58 : decode cX5_tell 58 = .ok (.iload_n 2, 1) := by decide +kernel
theorem dX5_tell_59 : decode cX5_tell 59 = .ok (.bipush 100, 2) := by decide +kernel
theorem dX5_tell_61 : decode cX5_tell 61 = .ok (.iadd, 1) := by decide +kernel
theorem dX5_tell_62 : decode cX5_tell 62 = .ok (.ireturn, 1) := by decide +kernel
theorem dX5_tell_63 : decode cX5_tell 63 = .ok (.aload_n 0, 1) := by decide +kernel
theorem dX5_tell_64 : decode cX5_tell 64 = .ok (.iconst 3, 1) := by decide +kernel
theorem dX5_tell_65 : decode cX5_tell 65 = .ok (.invokevirtual 199, 3) := by decide +kernel
theorem dX5_tell_68 : decode cX5_tell 68 = .ok (.aload_n 0, 1) := by decide +kernel
theorem dX5_tell_69 : decode cX5_tell 69 = .ok (.iconst 2, 1) := by decide +kernel
theorem dX5_tell_70 : decode cX5_tell 70 = .ok (.invokevirtual 199, 3) := by decide +kernel
theorem dX5_tell_73 : decode cX5_tell 73 = .ok (.aload_n 0, 1) := by decide +kernel
theorem dX5_tell_74 : decode cX5_tell 74 = .ok (.iconst 1, 1) := by decide +kernel
theorem dX5_tell_75 : decode cX5_tell 75 = .ok (.invokevirtual 199, 3) := by decide +kernel
theorem dX5_tell_78 : decode cX5_tell 78 = .ok (.aload_n 0, 1) := by decide +kernel
theorem dX5_tell_79 : decode cX5_tell 79 = .ok (.iconst 1, 1) := by decide +kernel
theorem dX5_tell_80 : decode cX5_tell 80 = .ok (.invokevirtual 199, 3) := by decide +kernel
theorem dX5_tell_83 : decode cX5_tell 83 = .ok (.iconst 2, 1) := by decide +kernel
theorem dX5_tell_84 : decode cX5_tell 84 = .ok (.iload_n 2, 1) := by decide +kernel
theorem dX5_tell_85 : decode cX5_tell 85 = .ok (.imul, 1) := by decide +kernel
theorem dX5_tell_86 : decode cX5_tell 86 = .ok (.bipush 100, 2) := by decide +kernel
theorem dX5_tell_88 : decode cX5_tell 88 = .ok (.iadd, 1) := by decide +kernel
theorem dX5_tell_89 : decode cX5_tell 89 = .ok (.ireturn, 1) := by decide +kernel
theorem dX5_tell_90 : decode cX5_tell 90 = .ok (.aload_n 0, 1) := by decide +kernel
theorem dX5_tell_91 : decode cX5_tell 91 = .ok (.iconst 1, 1) := by decide +kernel
theorem dX5_tell_92 : decode cX5_tell 92 = .ok (.invokevirtual 199, 3) := by decide +kernel
theorem dX5_tell_95 : decode cX5_tell 95 = .ok (.iload_n 2, 1) := by decide +kernel
theorem dX5_tell_96 : decode cX5_tell 96 = .ok (.ireturn, 1) := by decide +kernel
theorem dX5_draw_0 : decode cX5_draw 0 = .ok (.aload_n 0, 1) := by decide +kernel
theorem dX5_draw_1 : decode cX5_draw 1 = .ok (.iload_n 1, 1) := by decide +kernel
theorem dX5_draw_2 : decode cX5_draw 2 = .ok (.invokevirtual 132, 3) := by decide +kernel
theorem dX5_draw_5 : decode cX5_draw 5 = .ok (.ifCond .ne 5, 3) := by decide +kernel
theorem dX5_draw_8 : decode cX5_draw 8 = .ok (.iconst (-1), 1) := by decide +kernel
theorem dX5_draw_9 : decode cX5_draw 9 = .ok (.ireturn, 1) := by decide +kernel
theorem dX5_draw_10 : decode cX5_draw 10 = .ok (.aload_n 0, 1) := by decide +kernel
theorem dX5_draw_11 : decode cX5_draw 11 = .ok (.aload_n 0, 1) := by decide +kernel
theorem dX5_draw_12 : decode cX5_draw 12 = .ok (.getfield 19, 3) := by decide +kernel
theorem dX5_draw_15 : decode cX5_draw 15 = .ok (.iload_n 1, 1) := by decide +kernel
theorem dX5_draw_16 : decode cX5_draw 16 = .ok (.iaload, 1) := by decide +kernel
theorem dX5_draw_17 : decode cX5_draw 17 = .ok (.iconst 2, 1) := by decide +kernel
theorem dX5_draw_18 : decode cX5_draw 18 = .ok (.if_icmp .ne 7, 3) := by decide +kernel
theorem dX5_draw_21 : decode cX5_draw 21 = .ok (.iconst 5, 1) := by decide +kernel
theorem dX5_draw_22 : decode cX5_draw 22 = .ok (.goto 4, 3) := by decide +kernel
theorem dX5_draw_25 : decode cX5_draw 25 = .ok (.iconst 4, 1) := by decide +kernel
theorem dX5_draw_26 : decode cX5_draw 26 = .ok (.invokevirtual 199, 3) := by decide +kernel
theorem dX5_draw_29 : decode cX5_draw 29 = .ok (.aload_n 0, 1) := by decide +kernel
theorem dX5_draw_30 : decode cX5_draw 30 = .ok (.getfield 19, 3) := by decide +kernel
theorem dX5_draw_33 : decode cX5_draw 33 = .ok (.iload_n 1, 1) := by decide +kernel
theorem dX5_draw_34 : decode cX5_draw 34 = .ok (.iaload, 1) := by decide +kernel
theorem dX5_draw_35 : decode cX5_draw 35 = .ok (.iconst 2, 1) := by decide +kernel
theorem dX5_draw_36 : decode cX5_draw 36 = .ok (.if_icmp .ne 8, 3) := by decide +kernel
theorem dX5_draw_39 : decode cX5_draw 39 = .ok (.bipush 80, 2) := by decide +kernel
theorem dX5_draw_41 : decode cX5_draw 41 = .ok (.goto 4, 3) := by decide +kernel
theorem dX5_draw_44 : decode cX5_draw 44 = .ok (.iload_n 1, 1) := by decide +kernel
theorem dX5_draw_45 : decode cX5_draw 45 = .ok (.ireturn, 1) := by decide +kernel
theorem dX5_as_0 : decode cX5_as 0 = .ok (.aload_n 0, 1) := by decide +kernel
theorem dX5_as_1 : decode cX5_as 1 = .ok (.iconst 0, 1) := by decide +kernel
theorem dX5_as_2 : decode cX5_as 2 = .ok (.putfield 43, 3) := by decide +kernel
theorem dX5_as_5 : decode cX5_as 5 = .ok (.aload_n 0, 1) := by decide +kernel
theorem dX5_as_6 : decode cX5_as 6 = .ok (.iload_n 1, 1) := by decide +kernel
theorem dX5_as_7 : decode cX5_as 7 = .ok (.invokevirtual 132, 3) := by decide +kernel
theorem dX5_as_10 : decode cX5_as 10 = .ok (.ifCond .ne 5, 3) := by decide +kernel
theorem dX5_as_13 : decode cX5_as 13 = .ok (.iconst (-1), 1) := by decide +kernel
theorem dX5_as_14 : decode cX5_as 14 = .ok (.ireturn, 1) := by decide +kernel
theorem dX5_as_15 : decode cX5_as 15 = .ok (.iload_n 2, 1) := by decide +kernel
theorem dX5_as_16 : decode cX5_as 16 = .ok (.iconst 0, 1) := by decide +kernel
theorem dX5_as_17 : decode cX5_as 17 = .ok (.iconst 2, 1) := by decide +kernel
theorem dX5_as_18 : decode cX5_as 18 = .ok (.invokestatic 49, 3) := by decide +kernel
theorem dX5_as_21 : decode cX5_as 21 = .ok (.ifCond .ne 6, 3) := by decide +kernel
theorem dX5_as_24 : decode cX5_as 24 = .ok (.bipush (-2), 2) := by decide +kernel
theorem dX5_as_26 : decode cX5_as 26 = .ok (.ireturn, 1) := by decide +kernel
theorem dX5_as_27 : decode cX5_as 27 = .ok (.aload_n 0, 1) := by decide +kernel
theorem dX5_as_28 : decode cX5_as 28 = .ok (.getfield 19, 3) := by decide +kernel
theorem dX5_as_31 : decode cX5_as 31 = .ok (.iload_n 1, 1) := by decide +kernel
theorem dX5_as_32 : decode cX5_as 32 = .ok (.iaload, 1) := by decide +kernel
theorem dX5_as_33 : decode cX5_as 33 = .ok (.iload_n 2, 1) := by decide +kernel
theorem dX5_as_34 : decode cX5_as 34 = .ok (.if_icmp .lt 7, 3) := by decide +kernel
theorem dX5_as_37 : decode cX5_as 37 = .ok (.iconst 1, 1) := by decide +kernel
theorem dX5_as_38 : decode cX5_as 38 = .ok (.goto 8, 3) := by decide +kernel
theorem dX5_as_41 : decode cX5_as 41 = .ok (.aload_n 0, 1) := by decide +kernel
theorem dX5_as_42 : decode cX5_as 42 = .ok (.iconst 2, 1) := by decide +kernel
theorem dX5_as_43 : decode cX5_as 43 = .ok (.invokevirtual 77, 3) := by decide +kernel
theorem dX5_as_46 : decode cX5_as 46 = .ok (.ireturn, 1) := by decide +kernel
theorem dX5_trace_0 : decode cX5_trace 0 = .ok (.aload_n 0, 1) := by decide +kernel
theorem dX5_trace_1 : decode cX5_trace 1 = .ok (.getfield 196, 3) := by decide +kernel
theorem dX5_trace_4 : decode cX5_trace 4 = .ok (.ireturn, 1) := by decide +kernel
theorem dX5_fault_0 : decode cX5_fault 0 = .ok (.aload_n 0, 1) := by decide +kernel
theorem dX5_fault_1 : decode cX5_fault 1 = .ok (.getfield 43, 3) := by decide +kernel
theorem dX5_fault_4 : decode cX5_fault 4 = .ok (.ireturn, 1) := by decide +kernel
theorem dX5_many_0 : decode cX5_many 0 = .ok (.iload_n 1, 1) := by decide +kernel
theorem dX5_many_1 : decode cX5_many 1 = .ok (.tableswitch 73 0 5 #[39, 44, 49, 54, 59, 68], 39) := by decide +kernel
theorem dX5_many_40 : decode cX5_many 40 = .ok (.aload_n 0, 1) := by decide +kernel
theorem dX5_many_41 : decode cX5_many 41 = .ok (.getfield 53, 3) := by decide +kernel
theorem dX5_many_44 : decode cX5_many 44 = .ok (.ireturn, 1) := by decide +kernel
theorem dX5_many_45 : decode cX5_many 45 = .ok (.aload_n 0, 1) := by decide +kernel
theorem dX5_many_46 : decode cX5_many 46 = .ok (.getfield 56, 3) := by decide +kernel
theorem dX5_many_49 : decode cX5_many 49 = .ok (.ireturn, 1) := by decide +kernel
theorem dX5_many_50 : decode cX5_many 50 = .ok (.aload_n 0, 1) := by decide +kernel
theorem dX5_many_51 : decode cX5_many 51 = .ok (.getfield 90, 3) := by decide +kernel
theorem dX5_many_54 : decode cX5_many 54 = .ok (.ireturn, 1) := by decide +kernel
theorem dX5_many_55 : decode cX5_many 55 = .ok (.aload_n 0, 1) := by decide +kernel
theorem dX5_many_56 : decode cX5_many 56 = .ok (.getfield 99, 3) := by decide +kernel
theorem dX5_many_59 : decode cX5_many 59 = .ok (.ireturn, 1) := by decide +kernel
theorem dX5_many_60 : decode cX5_many 60 = .ok (.aload_n 0, 1) := by decide +kernel
theorem dX5_many_61 : decode cX5_many 61 = .ok (.iconst 0, 1) := by decide +kernel
theorem dX5_many_62 : decode cX5_many 62 = .ok (.invokevirtual 129, 3) := by decide +kernel
theorem dX5_many_65 : decode cX5_many 65 = .ok (.invokestatic 138, 3) := by decide +kernel
theorem dX5_many_68 : decode cX5_many 68 = .ok (.ireturn, 1) := by decide +kernel
theorem dX5_many_69 : decode cX5_many 69 = .ok (.aload_n 0, 1) := by decide +kernel
theorem dX5_many_70 : decode cX5_many 70 = .ok (.getfield 102, 3) := by decide +kernel
theorem dX5_many_73 : decode cX5_many 73 = .ok (.ireturn, 1) := by decide +kernel
theorem dX5_many_74 : decode cX5_many 74 = .ok (.bipush (-2), 2) := by decide +kernel
theorem dX5_many_76 : decode cX5_many 76 = .ok (.ireturn, 1) := by decide +kernel
end
section
theorem dL_law_0 : decode cL_law 0 = .ok (.new 7, 3) := by decide +kernel
theorem dL_law_3 : decode cL_law 3 = .ok (.dup, 1) := by decide +kernel
theorem dL_law_4 : decode cL_law 4 = .ok (.invokespecial 9, 3) := by decide +kernel
theorem dL_law_7 : decode cL_law 7 = .ok (.astore_n 1, 1) := by decide +kernel
theorem dL_law_8 : decode cL_law 8 = .ok (.new 10, 3) := by decide +kernel
theorem dL_law_11 : decode cL_law 11 = .ok (.dup, 1) := by decide +kernel
theorem dL_law_12 : decode cL_law 12 = .ok (.invokespecial 12, 3) := by decide +kernel
theorem dL_law_15 : decode cL_law 15 = .ok (.astore_n 2, 1) := by decide +kernel
theorem dL_law_16 : decode cL_law 16 = .ok (.iconst 0, 1) := by decide +kernel
theorem dL_law_17 : decode cL_law 17 = .ok (.istore_n 3, 1) := by decide +kernel
theorem dL_law_18 : decode cL_law 18 = .ok (.iload_n 3, 1) := by decide +kernel
theorem dL_law_19 : decode cL_law 19 = .ok (.aload_n 0, 1) := by decide +kernel
theorem dL_law_20 : decode cL_law 20 = .ok (.arraylength, 1) := by decide +kernel
theorem dL_law_21 : decode cL_law 21 = .ok (.bipush 6, 2) := by decide +kernel
theorem dL_law_23 : decode cL_law 23 = .ok (.isub, 1) := by decide +kernel
theorem dL_law_24 : decode cL_law 24 = .ok (.if_icmp .gt 1042, 3) := by decide +kernel
theorem dL_law_27 : decode cL_law 27 = .ok (.aload_n 0, 1) := by decide +kernel
theorem dL_law_28 : decode cL_law 28 = .ok (.iload_n 3, 1) := by decide +kernel
theorem dL_law_29 : decode cL_law 29 = .ok (.iaload, 1) := by decide +kernel
theorem dL_law_30 : decode cL_law 30 = .ok (.bipush 31, 2) := by decide +kernel
theorem dL_law_32 : decode cL_law 32 = .ok (.iand, 1) := by decide +kernel
theorem dL_law_33 : decode cL_law 33 = .ok (.tableswitch 1027 0 29 #[135, 188, 221, 244, 277, 300, 333, 356, 389, 452, 475, 488, 511, 534, 577, 600, 623, 646, 659, 683, 726, 749, 792, 836, 899, 922, 945, 978, 991, 1004], 135) := by decide +kernel
theorem dL_law_168 : decode cL_law 168 = .ok (.aload_n 1, 1) := by decide +kernel
theorem dL_law_169 : decode cL_law 169 = .ok (.aload_n 0, 1) := by decide +kernel
theorem dL_law_170 : decode cL_law 170 = .ok (.iload_n 3, 1) := by decide +kernel
theorem dL_law_171 : decode cL_law 171 = .ok (.iconst 1, 1) := by decide +kernel
theorem dL_law_172 : decode cL_law 172 = .ok (.iadd, 1) := by decide +kernel
theorem dL_law_173 : decode cL_law 173 = .ok (.iaload, 1) := by decide +kernel
theorem dL_law_174 : decode cL_law 174 = .ok (.aload_n 0, 1) := by decide +kernel
theorem dL_law_175 : decode cL_law 175 = .ok (.iload_n 3, 1) := by decide +kernel
theorem dL_law_176 : decode cL_law 176 = .ok (.iconst 2, 1) := by decide +kernel
theorem dL_law_177 : decode cL_law 177 = .ok (.iadd, 1) := by decide +kernel
theorem dL_law_178 : decode cL_law 178 = .ok (.iaload, 1) := by decide +kernel
theorem dL_law_179 : decode cL_law 179 = .ok (.aload_n 0, 1) := by decide +kernel
theorem dL_law_180 : decode cL_law 180 = .ok (.iload_n 3, 1) := by decide +kernel
theorem dL_law_181 : decode cL_law 181 = .ok (.iconst 3, 1) := by decide +kernel
theorem dL_law_182 : decode cL_law 182 = .ok (.iadd, 1) := by decide +kernel
theorem dL_law_183 : decode cL_law 183 = .ok (.iaload, 1) := by decide +kernel
theorem dL_law_184 : decode cL_law 184 = .ok (.aload_n 0, 1) := by decide +kernel
theorem dL_law_185 : decode cL_law 185 = .ok (.iload_n 3, 1) := by decide +kernel
theorem dL_law_186 : decode cL_law 186 = .ok (.iconst 4, 1) := by decide +kernel
theorem dL_law_187 : decode cL_law 187 = .ok (.iadd, 1) := by decide +kernel
theorem dL_law_188 : decode cL_law 188 = .ok (.iaload, 1) := by decide +kernel
theorem dL_law_189 : decode cL_law 189 = .ok (.invokevirtual 13, 3) := by decide +kernel
theorem dL_law_192 : decode cL_law 192 = .ok (.aload_n 2, 1) := by decide +kernel
theorem dL_law_193 : decode cL_law 193 = .ok (.aload_n 0, 1) := by decide +kernel
theorem dL_law_194 : decode cL_law 194 = .ok (.iload_n 3, 1) := by decide +kernel
theorem dL_law_195 : decode cL_law 195 = .ok (.iconst 1, 1) := by decide +kernel
theorem dL_law_196 : decode cL_law 196 = .ok (.iadd, 1) := by decide +kernel
theorem dL_law_197 : decode cL_law 197 = .ok (.iaload, 1) := by decide +kernel
theorem dL_law_198 : decode cL_law 198 = .ok (.aload_n 0, 1) := by decide +kernel
theorem dL_law_199 : decode cL_law 199 = .ok (.iload_n 3, 1) := by decide +kernel
theorem dL_law_200 : decode cL_law 200 = .ok (.iconst 2, 1) := by decide +kernel
theorem dL_law_201 : decode cL_law 201 = .ok (.iadd, 1) := by decide +kernel
theorem dL_law_202 : decode cL_law 202 = .ok (.iaload, 1) := by decide +kernel
theorem dL_law_203 : decode cL_law 203 = .ok (.aload_n 0, 1) := by decide +kernel
theorem dL_law_204 : decode cL_law 204 = .ok (.iload_n 3, 1) := by decide +kernel
theorem dL_law_205 : decode cL_law 205 = .ok (.iconst 3, 1) := by decide +kernel
theorem dL_law_206 : decode cL_law 206 = .ok (.iadd, 1) := by decide +kernel
theorem dL_law_207 : decode cL_law 207 = .ok (.iaload, 1) := by decide +kernel
theorem dL_law_208 : decode cL_law 208 = .ok (.aload_n 0, 1) := by decide +kernel
theorem dL_law_209 : decode cL_law 209 = .ok (.iload_n 3, 1) := by decide +kernel
theorem dL_law_210 : decode cL_law 210 = .ok (.iconst 4, 1) := by decide +kernel
theorem dL_law_211 : decode cL_law 211 = .ok (.iadd, 1) := by decide +kernel
theorem dL_law_212 : decode cL_law 212 = .ok (.iaload, 1) := by decide +kernel
theorem dL_law_213 : decode cL_law 213 = .ok (.invokevirtual 17, 3) := by decide +kernel
theorem dL_law_216 : decode cL_law 216 = .ok (.if_icmp .eq 844, 3) := by decide +kernel
theorem dL_law_219 : decode cL_law 219 = .ok (.iconst 0, 1) := by decide +kernel
theorem dL_law_220 : decode cL_law 220 = .ok (.ireturn, 1) := by decide +kernel
theorem dL_law_221 : decode cL_law 221 = .ok (.aload_n 1, 1) := by decide +kernel
theorem dL_law_222 : decode cL_law 222 = .ok (.aload_n 0, 1) := by decide +kernel
theorem dL_law_223 : decode cL_law 223 = .ok (.iload_n 3, 1) := by decide +kernel
theorem dL_law_224 : decode cL_law 224 = .ok (.iconst 1, 1) := by decide +kernel
theorem dL_law_225 : decode cL_law 225 = .ok (.iadd, 1) := by decide +kernel
theorem dL_law_226 : decode cL_law 226 = .ok (.iaload, 1) := by decide +kernel
theorem dL_law_227 : decode cL_law 227 = .ok (.aload_n 0, 1) := by decide +kernel
theorem dL_law_228 : decode cL_law 228 = .ok (.iload_n 3, 1) := by decide +kernel
theorem dL_law_229 : decode cL_law 229 = .ok (.iconst 2, 1) := by decide +kernel
theorem dL_law_230 : decode cL_law 230 = .ok (.iadd, 1) := by decide +kernel
theorem dL_law_231 : decode cL_law 231 = .ok (.iaload, 1) := by decide +kernel
theorem dL_law_232 : decode cL_law 232 = .ok (.invokevirtual 18, 3) := by decide +kernel
theorem dL_law_235 : decode cL_law 235 = .ok (.aload_n 2, 1) := by decide +kernel
theorem dL_law_236 : decode cL_law 236 = .ok (.aload_n 0, 1) := by decide +kernel
theorem dL_law_237 : decode cL_law 237 = .ok (.iload_n 3, 1) := by decide +kernel
theorem dL_law_238 : decode cL_law 238 = .ok (.iconst 1, 1) := by decide +kernel
theorem dL_law_239 : decode cL_law 239 = .ok (.iadd, 1) := by decide +kernel
theorem dL_law_240 : decode cL_law 240 = .ok (.iaload, 1) := by decide +kernel
theorem dL_law_241 : decode cL_law 241 = .ok (.aload_n 0, 1) := by decide +kernel
theorem dL_law_242 : decode cL_law 242 = .ok (.iload_n 3, 1) := by decide +kernel
theorem dL_law_243 : decode cL_law 243 = .ok (.iconst 2, 1) := by decide +kernel
theorem dL_law_244 : decode cL_law 244 = .ok (.iadd, 1) := by decide +kernel
theorem dL_law_245 : decode cL_law 245 = .ok (.iaload, 1) := by decide +kernel
theorem dL_law_246 : decode cL_law 246 = .ok (.invokevirtual 22, 3) := by decide +kernel
theorem dL_law_249 : decode cL_law 249 = .ok (.if_icmp .eq 811, 3) := by decide +kernel
theorem dL_law_252 : decode cL_law 252 = .ok (.iconst 0, 1) := by decide +kernel
theorem dL_law_253 : decode cL_law 253 = .ok (.ireturn, 1) := by decide +kernel
theorem dL_law_254 : decode cL_law 254 = .ok (.aload_n 1, 1) := by decide +kernel
theorem dL_law_255 : decode cL_law 255 = .ok (.aload_n 0, 1) := by decide +kernel
theorem dL_law_256 : decode cL_law 256 = .ok (.iload_n 3, 1) := by decide +kernel
theorem dL_law_257 : decode cL_law 257 = .ok (.iconst 1, 1) := by decide +kernel
theorem dL_law_258 : decode cL_law 258 = .ok (.iadd, 1) := by decide +kernel
theorem dL_law_259 : decode cL_law 259 = .ok (.iaload, 1) := by decide +kernel
theorem dL_law_260 : decode cL_law 260 = .ok (.invokevirtual 23, 3) := by decide +kernel
theorem dL_law_263 : decode cL_law 263 = .ok (.aload_n 2, 1) := by decide +kernel
theorem dL_law_264 : decode cL_law 264 = .ok (.aload_n 0, 1) := by decide +kernel
theorem dL_law_265 : decode cL_law 265 = .ok (.iload_n 3, 1) := by decide +kernel
theorem dL_law_266 : decode cL_law 266 = .ok (.iconst 1, 1) := by decide +kernel
theorem dL_law_267 : decode cL_law 267 = .ok (.iadd, 1) := by decide +kernel
theorem dL_law_268 : decode cL_law 268 = .ok (.iaload, 1) := by decide +kernel
theorem dL_law_269 : decode cL_law 269 = .ok (.invokevirtual 27, 3) := by decide +kernel
theorem dL_law_272 : decode cL_law 272 = .ok (.if_icmp .eq 788, 3) := by decide +kernel
theorem dL_law_275 : decode cL_law 275 = .ok (.iconst 0, 1) := by decide +kernel
theorem dL_law_276 : decode cL_law 276 = .ok (.ireturn, 1) := by decide +kernel
theorem dL_law_277 : decode cL_law 277 = .ok (.aload_n 1, 1) := by decide +kernel
theorem dL_law_278 : decode cL_law 278 = .ok (.aload_n 0, 1) := by decide +kernel
theorem dL_law_279 : decode cL_law 279 = .ok (.iload_n 3, 1) := by decide +kernel
theorem dL_law_280 : decode cL_law 280 = .ok (.iconst 1, 1) := by decide +kernel
theorem dL_law_281 : decode cL_law 281 = .ok (.iadd, 1) := by decide +kernel
theorem dL_law_282 : decode cL_law 282 = .ok (.iaload, 1) := by decide +kernel
theorem dL_law_283 : decode cL_law 283 = .ok (.aload_n 0, 1) := by decide +kernel
theorem dL_law_284 : decode cL_law 284 = .ok (.iload_n 3, 1) := by decide +kernel
theorem dL_law_285 : decode cL_law 285 = .ok (.iconst 2, 1) := by decide +kernel
theorem dL_law_286 : decode cL_law 286 = .ok (.iadd, 1) := by decide +kernel
theorem dL_law_287 : decode cL_law 287 = .ok (.iaload, 1) := by decide +kernel
theorem dL_law_288 : decode cL_law 288 = .ok (.invokevirtual 28, 3) := by decide +kernel
theorem dL_law_291 : decode cL_law 291 = .ok (.aload_n 2, 1) := by decide +kernel
theorem dL_law_292 : decode cL_law 292 = .ok (.aload_n 0, 1) := by decide +kernel
theorem dL_law_293 : decode cL_law 293 = .ok (.iload_n 3, 1) := by decide +kernel
theorem dL_law_294 : decode cL_law 294 = .ok (.iconst 1, 1) := by decide +kernel
theorem dL_law_295 : decode cL_law 295 = .ok (.iadd, 1) := by decide +kernel
theorem dL_law_296 : decode cL_law 296 = .ok (.iaload, 1) := by decide +kernel
theorem dL_law_297 : decode cL_law 297 = .ok (.aload_n 0, 1) := by decide +kernel
theorem dL_law_298 : decode cL_law 298 = .ok (.iload_n 3, 1) := by decide +kernel
theorem dL_law_299 : decode cL_law 299 = .ok (.iconst 2, 1) := by decide +kernel
theorem dL_law_300 : decode cL_law 300 = .ok (.iadd, 1) := by decide +kernel
theorem dL_law_301 : decode cL_law 301 = .ok (.iaload, 1) := by decide +kernel
theorem dL_law_302 : decode cL_law 302 = .ok (.invokevirtual 31, 3) := by decide +kernel
theorem dL_law_305 : decode cL_law 305 = .ok (.if_icmp .eq 755, 3) := by decide +kernel
theorem dL_law_308 : decode cL_law 308 = .ok (.iconst 0, 1) := by decide +kernel
theorem dL_law_309 : decode cL_law 309 = .ok (.ireturn, 1) := by decide +kernel
theorem dL_law_310 : decode cL_law 310 = .ok (.aload_n 1, 1) := by decide +kernel
theorem dL_law_311 : decode cL_law 311 = .ok (.aload_n 0, 1) := by decide +kernel
theorem dL_law_312 : decode cL_law 312 = .ok (.iload_n 3, 1) := by decide +kernel
theorem dL_law_313 : decode cL_law 313 = .ok (.iconst 1, 1) := by decide +kernel
theorem dL_law_314 : decode cL_law 314 = .ok (.iadd, 1) := by decide +kernel
theorem dL_law_315 : decode cL_law 315 = .ok (.iaload, 1) := by decide +kernel
theorem dL_law_316 : decode cL_law 316 = .ok (.invokevirtual 32, 3) := by decide +kernel
theorem dL_law_319 : decode cL_law 319 = .ok (.aload_n 2, 1) := by decide +kernel
theorem dL_law_320 : decode cL_law 320 = .ok (.aload_n 0, 1) := by decide +kernel
theorem dL_law_321 : decode cL_law 321 = .ok (.iload_n 3, 1) := by decide +kernel
theorem dL_law_322 : decode cL_law 322 = .ok (.iconst 1, 1) := by decide +kernel
theorem dL_law_323 : decode cL_law 323 = .ok (.iadd, 1) := by decide +kernel
theorem dL_law_324 : decode cL_law 324 = .ok (.iaload, 1) := by decide +kernel
theorem dL_law_325 : decode cL_law 325 = .ok (.invokevirtual 35, 3) := by decide +kernel
theorem dL_law_328 : decode cL_law 328 = .ok (.if_icmp .eq 732, 3) := by decide +kernel
theorem dL_law_331 : decode cL_law 331 = .ok (.iconst 0, 1) := by decide +kernel
theorem dL_law_332 : decode cL_law 332 = .ok (.ireturn, 1) := by decide +kernel
theorem dL_law_333 : decode cL_law 333 = .ok (.aload_n 1, 1) := by decide +kernel
theorem dL_law_334 : decode cL_law 334 = .ok (.aload_n 0, 1) := by decide +kernel
theorem dL_law_335 : decode cL_law 335 = .ok (.iload_n 3, 1) := by decide +kernel
theorem dL_law_336 : decode cL_law 336 = .ok (.iconst 1, 1) := by decide +kernel
theorem dL_law_337 : decode cL_law 337 = .ok (.iadd, 1) := by decide +kernel
theorem dL_law_338 : decode cL_law 338 = .ok (.iaload, 1) := by decide +kernel
theorem dL_law_339 : decode cL_law 339 = .ok (.aload_n 0, 1) := by decide +kernel
theorem dL_law_340 : decode cL_law 340 = .ok (.iload_n 3, 1) := by decide +kernel
theorem dL_law_341 : decode cL_law 341 = .ok (.iconst 2, 1) := by decide +kernel
theorem dL_law_342 : decode cL_law 342 = .ok (.iadd, 1) := by decide +kernel
theorem dL_law_343 : decode cL_law 343 = .ok (.iaload, 1) := by decide +kernel
theorem dL_law_344 : decode cL_law 344 = .ok (.invokevirtual 36, 3) := by decide +kernel
theorem dL_law_347 : decode cL_law 347 = .ok (.aload_n 2, 1) := by decide +kernel
theorem dL_law_348 : decode cL_law 348 = .ok (.aload_n 0, 1) := by decide +kernel
theorem dL_law_349 : decode cL_law 349 = .ok (.iload_n 3, 1) := by decide +kernel
theorem dL_law_350 : decode cL_law 350 = .ok (.iconst 1, 1) := by decide +kernel
theorem dL_law_351 : decode cL_law 351 = .ok (.iadd, 1) := by decide +kernel
theorem dL_law_352 : decode cL_law 352 = .ok (.iaload, 1) := by decide +kernel
theorem dL_law_353 : decode cL_law 353 = .ok (.aload_n 0, 1) := by decide +kernel
theorem dL_law_354 : decode cL_law 354 = .ok (.iload_n 3, 1) := by decide +kernel
theorem dL_law_355 : decode cL_law 355 = .ok (.iconst 2, 1) := by decide +kernel
theorem dL_law_356 : decode cL_law 356 = .ok (.iadd, 1) := by decide +kernel
theorem dL_law_357 : decode cL_law 357 = .ok (.iaload, 1) := by decide +kernel
theorem dL_law_358 : decode cL_law 358 = .ok (.invokevirtual 39, 3) := by decide +kernel
theorem dL_law_361 : decode cL_law 361 = .ok (.if_icmp .eq 699, 3) := by decide +kernel
theorem dL_law_364 : decode cL_law 364 = .ok (.iconst 0, 1) := by decide +kernel
theorem dL_law_365 : decode cL_law 365 = .ok (.ireturn, 1) := by decide +kernel
theorem dL_law_366 : decode cL_law 366 = .ok (.aload_n 1, 1) := by decide +kernel
theorem dL_law_367 : decode cL_law 367 = .ok (.aload_n 0, 1) := by decide +kernel
theorem dL_law_368 : decode cL_law 368 = .ok (.iload_n 3, 1) := by decide +kernel
theorem dL_law_369 : decode cL_law 369 = .ok (.iconst 1, 1) := by decide +kernel
theorem dL_law_370 : decode cL_law 370 = .ok (.iadd, 1) := by decide +kernel
theorem dL_law_371 : decode cL_law 371 = .ok (.iaload, 1) := by decide +kernel
theorem dL_law_372 : decode cL_law 372 = .ok (.invokevirtual 40, 3) := by decide +kernel
theorem dL_law_375 : decode cL_law 375 = .ok (.aload_n 2, 1) := by decide +kernel
theorem dL_law_376 : decode cL_law 376 = .ok (.aload_n 0, 1) := by decide +kernel
theorem dL_law_377 : decode cL_law 377 = .ok (.iload_n 3, 1) := by decide +kernel
theorem dL_law_378 : decode cL_law 378 = .ok (.iconst 1, 1) := by decide +kernel
theorem dL_law_379 : decode cL_law 379 = .ok (.iadd, 1) := by decide +kernel
theorem dL_law_380 : decode cL_law 380 = .ok (.iaload, 1) := by decide +kernel
theorem dL_law_381 : decode cL_law 381 = .ok (.invokevirtual 43, 3) := by decide +kernel
theorem dL_law_384 : decode cL_law 384 = .ok (.if_icmp .eq 676, 3) := by decide +kernel
theorem dL_law_387 : decode cL_law 387 = .ok (.iconst 0, 1) := by decide +kernel
theorem dL_law_388 : decode cL_law 388 = .ok (.ireturn, 1) := by decide +kernel
theorem dL_law_389 : decode cL_law 389 = .ok (.aload_n 1, 1) := by decide +kernel
theorem dL_law_390 : decode cL_law 390 = .ok (.aload_n 0, 1) := by decide +kernel
theorem dL_law_391 : decode cL_law 391 = .ok (.iload_n 3, 1) := by decide +kernel
theorem dL_law_392 : decode cL_law 392 = .ok (.iconst 1, 1) := by decide +kernel
theorem dL_law_393 : decode cL_law 393 = .ok (.iadd, 1) := by decide +kernel
theorem dL_law_394 : decode cL_law 394 = .ok (.iaload, 1) := by decide +kernel
theorem dL_law_395 : decode cL_law 395 = .ok (.aload_n 0, 1) := by decide +kernel
theorem dL_law_396 : decode cL_law 396 = .ok (.iload_n 3, 1) := by decide +kernel
theorem dL_law_397 : decode cL_law 397 = .ok (.iconst 2, 1) := by decide +kernel
theorem dL_law_398 : decode cL_law 398 = .ok (.iadd, 1) := by decide +kernel
theorem dL_law_399 : decode cL_law 399 = .ok (.iaload, 1) := by decide +kernel
theorem dL_law_400 : decode cL_law 400 = .ok (.invokevirtual 44, 3) := by decide +kernel
theorem dL_law_403 : decode cL_law 403 = .ok (.aload_n 2, 1) := by decide +kernel
theorem dL_law_404 : decode cL_law 404 = .ok (.aload_n 0, 1) := by decide +kernel
theorem dL_law_405 : decode cL_law 405 = .ok (.iload_n 3, 1) := by decide +kernel
theorem dL_law_406 : decode cL_law 406 = .ok (.iconst 1, 1) := by decide +kernel
theorem dL_law_407 : decode cL_law 407 = .ok (.iadd, 1) := by decide +kernel
theorem dL_law_408 : decode cL_law 408 = .ok (.iaload, 1) := by decide +kernel
theorem dL_law_409 : decode cL_law 409 = .ok (.aload_n 0, 1) := by decide +kernel
theorem dL_law_410 : decode cL_law 410 = .ok (.iload_n 3, 1) := by decide +kernel
theorem dL_law_411 : decode cL_law 411 = .ok (.iconst 2, 1) := by decide +kernel
theorem dL_law_412 : decode cL_law 412 = .ok (.iadd, 1) := by decide +kernel
theorem dL_law_413 : decode cL_law 413 = .ok (.iaload, 1) := by decide +kernel
theorem dL_law_414 : decode cL_law 414 = .ok (.invokevirtual 47, 3) := by decide +kernel
theorem dL_law_417 : decode cL_law 417 = .ok (.if_icmp .eq 643, 3) := by decide +kernel
theorem dL_law_420 : decode cL_law 420 = .ok (.iconst 0, 1) := by decide +kernel
theorem dL_law_421 : decode cL_law 421 = .ok (.ireturn, 1) := by decide +kernel
theorem dL_law_422 : decode cL_law 422 = .ok (.aload_n 1, 1) := by decide +kernel
theorem dL_law_423 : decode cL_law 423 = .ok (.aload_n 0, 1) := by decide +kernel
theorem dL_law_424 : decode cL_law 424 = .ok (.iload_n 3, 1) := by decide +kernel
theorem dL_law_425 : decode cL_law 425 = .ok (.iconst 1, 1) := by decide +kernel
theorem dL_law_426 : decode cL_law 426 = .ok (.iadd, 1) := by decide +kernel
theorem dL_law_427 : decode cL_law 427 = .ok (.iaload, 1) := by decide +kernel
theorem dL_law_428 : decode cL_law 428 = .ok (.aload_n 0, 1) := by decide +kernel
theorem dL_law_429 : decode cL_law 429 = .ok (.iload_n 3, 1) := by decide +kernel
theorem dL_law_430 : decode cL_law 430 = .ok (.iconst 2, 1) := by decide +kernel
theorem dL_law_431 : decode cL_law 431 = .ok (.iadd, 1) := by decide +kernel
theorem dL_law_432 : decode cL_law 432 = .ok (.iaload, 1) := by decide +kernel
theorem dL_law_433 : decode cL_law 433 = .ok (.aload_n 0, 1) := by decide +kernel
theorem dL_law_434 : decode cL_law 434 = .ok (.iload_n 3, 1) := by decide +kernel
theorem dL_law_435 : decode cL_law 435 = .ok (.iconst 3, 1) := by decide +kernel
theorem dL_law_436 : decode cL_law 436 = .ok (.iadd, 1) := by decide +kernel
theorem dL_law_437 : decode cL_law 437 = .ok (.iaload, 1) := by decide +kernel
theorem dL_law_438 : decode cL_law 438 = .ok (.aload_n 0, 1) := by decide +kernel
theorem dL_law_439 : decode cL_law 439 = .ok (.iload_n 3, 1) := by decide +kernel
theorem dL_law_440 : decode cL_law 440 = .ok (.iconst 4, 1) := by decide +kernel
theorem dL_law_441 : decode cL_law 441 = .ok (.iadd, 1) := by decide +kernel
theorem dL_law_442 : decode cL_law 442 = .ok (.iaload, 1) := by decide +kernel
theorem dL_law_443 : decode cL_law 443 = .ok (.aload_n 0, 1) := by decide +kernel
theorem dL_law_444 : decode cL_law 444 = .ok (.iload_n 3, 1) := by decide +kernel
theorem dL_law_445 : decode cL_law 445 = .ok (.iconst 5, 1) := by decide +kernel
theorem dL_law_446 : decode cL_law 446 = .ok (.iadd, 1) := by decide +kernel
theorem dL_law_447 : decode cL_law 447 = .ok (.iaload, 1) := by decide +kernel
theorem dL_law_448 : decode cL_law 448 = .ok (.invokevirtual 48, 3) := by decide +kernel
theorem dL_law_451 : decode cL_law 451 = .ok (.aload_n 2, 1) := by decide +kernel
theorem dL_law_452 : decode cL_law 452 = .ok (.aload_n 0, 1) := by decide +kernel
theorem dL_law_453 : decode cL_law 453 = .ok (.iload_n 3, 1) := by decide +kernel
theorem dL_law_454 : decode cL_law 454 = .ok (.iconst 1, 1) := by decide +kernel
theorem dL_law_455 : decode cL_law 455 = .ok (.iadd, 1) := by decide +kernel
theorem dL_law_456 : decode cL_law 456 = .ok (.iaload, 1) := by decide +kernel
theorem dL_law_457 : decode cL_law 457 = .ok (.aload_n 0, 1) := by decide +kernel
theorem dL_law_458 : decode cL_law 458 = .ok (.iload_n 3, 1) := by decide +kernel
theorem dL_law_459 : decode cL_law 459 = .ok (.iconst 2, 1) := by decide +kernel
theorem dL_law_460 : decode cL_law 460 = .ok (.iadd, 1) := by decide +kernel
theorem dL_law_461 : decode cL_law 461 = .ok (.iaload, 1) := by decide +kernel
theorem dL_law_462 : decode cL_law 462 = .ok (.aload_n 0, 1) := by decide +kernel
theorem dL_law_463 : decode cL_law 463 = .ok (.iload_n 3, 1) := by decide +kernel
theorem dL_law_464 : decode cL_law 464 = .ok (.iconst 3, 1) := by decide +kernel
theorem dL_law_465 : decode cL_law 465 = .ok (.iadd, 1) := by decide +kernel
theorem dL_law_466 : decode cL_law 466 = .ok (.iaload, 1) := by decide +kernel
theorem dL_law_467 : decode cL_law 467 = .ok (.aload_n 0, 1) := by decide +kernel
theorem dL_law_468 : decode cL_law 468 = .ok (.iload_n 3, 1) := by decide +kernel
theorem dL_law_469 : decode cL_law 469 = .ok (.iconst 4, 1) := by decide +kernel
theorem dL_law_470 : decode cL_law 470 = .ok (.iadd, 1) := by decide +kernel
theorem dL_law_471 : decode cL_law 471 = .ok (.iaload, 1) := by decide +kernel
theorem dL_law_472 : decode cL_law 472 = .ok (.aload_n 0, 1) := by decide +kernel
theorem dL_law_473 : decode cL_law 473 = .ok (.iload_n 3, 1) := by decide +kernel
theorem dL_law_474 : decode cL_law 474 = .ok (.iconst 5, 1) := by decide +kernel
theorem dL_law_475 : decode cL_law 475 = .ok (.iadd, 1) := by decide +kernel
theorem dL_law_476 : decode cL_law 476 = .ok (.iaload, 1) := by decide +kernel
theorem dL_law_477 : decode cL_law 477 = .ok (.invokevirtual 52, 3) := by decide +kernel
theorem dL_law_480 : decode cL_law 480 = .ok (.if_icmp .eq 580, 3) := by decide +kernel
theorem dL_law_483 : decode cL_law 483 = .ok (.iconst 0, 1) := by decide +kernel
theorem dL_law_484 : decode cL_law 484 = .ok (.ireturn, 1) := by decide +kernel
theorem dL_law_485 : decode cL_law 485 = .ok (.aload_n 1, 1) := by decide +kernel
theorem dL_law_486 : decode cL_law 486 = .ok (.aload_n 0, 1) := by decide +kernel
theorem dL_law_487 : decode cL_law 487 = .ok (.iload_n 3, 1) := by decide +kernel
theorem dL_law_488 : decode cL_law 488 = .ok (.iconst 1, 1) := by decide +kernel
theorem dL_law_489 : decode cL_law 489 = .ok (.iadd, 1) := by decide +kernel
theorem dL_law_490 : decode cL_law 490 = .ok (.iaload, 1) := by decide +kernel
theorem dL_law_491 : decode cL_law 491 = .ok (.invokevirtual 53, 3) := by decide +kernel
theorem dL_law_494 : decode cL_law 494 = .ok (.aload_n 2, 1) := by decide +kernel
theorem dL_law_495 : decode cL_law 495 = .ok (.aload_n 0, 1) := by decide +kernel
theorem dL_law_496 : decode cL_law 496 = .ok (.iload_n 3, 1) := by decide +kernel
theorem dL_law_497 : decode cL_law 497 = .ok (.iconst 1, 1) := by decide +kernel
theorem dL_law_498 : decode cL_law 498 = .ok (.iadd, 1) := by decide +kernel
theorem dL_law_499 : decode cL_law 499 = .ok (.iaload, 1) := by decide +kernel
theorem dL_law_500 : decode cL_law 500 = .ok (.invokevirtual 56, 3) := by decide +kernel
theorem dL_law_503 : decode cL_law 503 = .ok (.if_icmp .eq 557, 3) := by decide +kernel
theorem dL_law_506 : decode cL_law 506 = .ok (.iconst 0, 1) := by decide +kernel
theorem dL_law_507 : decode cL_law 507 = .ok (.ireturn, 1) := by decide +kernel
theorem dL_law_508 : decode cL_law 508 = .ok (.aload_n 1, 1) := by decide +kernel
theorem dL_law_509 : decode cL_law 509 = .ok (.invokevirtual 57, 3) := by decide +kernel
theorem dL_law_512 : decode cL_law 512 = .ok (.aload_n 2, 1) := by decide +kernel
theorem dL_law_513 : decode cL_law 513 = .ok (.invokevirtual 61, 3) := by decide +kernel
theorem dL_law_516 : decode cL_law 516 = .ok (.if_icmp .eq 544, 3) := by decide +kernel
theorem dL_law_519 : decode cL_law 519 = .ok (.iconst 0, 1) := by decide +kernel
theorem dL_law_520 : decode cL_law 520 = .ok (.ireturn, 1) := by decide +kernel
theorem dL_law_521 : decode cL_law 521 = .ok (.aload_n 1, 1) := by decide +kernel
theorem dL_law_522 : decode cL_law 522 = .ok (.aload_n 0, 1) := by decide +kernel
theorem dL_law_523 : decode cL_law 523 = .ok (.iload_n 3, 1) := by decide +kernel
theorem dL_law_524 : decode cL_law 524 = .ok (.iconst 1, 1) := by decide +kernel
theorem dL_law_525 : decode cL_law 525 = .ok (.iadd, 1) := by decide +kernel
theorem dL_law_526 : decode cL_law 526 = .ok (.iaload, 1) := by decide +kernel
theorem dL_law_527 : decode cL_law 527 = .ok (.invokevirtual 62, 3) := by decide +kernel
theorem dL_law_530 : decode cL_law 530 = .ok (.aload_n 2, 1) := by decide +kernel
theorem dL_law_531 : decode cL_law 531 = .ok (.aload_n 0, 1) := by decide +kernel
theorem dL_law_532 : decode cL_law 532 = .ok (.iload_n 3, 1) := by decide +kernel
theorem dL_law_533 : decode cL_law 533 = .ok (.iconst 1, 1) := by decide +kernel
theorem dL_law_534 : decode cL_law 534 = .ok (.iadd, 1) := by decide +kernel
theorem dL_law_535 : decode cL_law 535 = .ok (.iaload, 1) := by decide +kernel
theorem dL_law_536 : decode cL_law 536 = .ok (.invokevirtual 65, 3) := by decide +kernel
theorem dL_law_539 : decode cL_law 539 = .ok (.if_icmp .eq 521, 3) := by decide +kernel
theorem dL_law_542 : decode cL_law 542 = .ok (.iconst 0, 1) := by decide +kernel
theorem dL_law_543 : decode cL_law 543 = .ok (.ireturn, 1) := by decide +kernel
theorem dL_law_544 : decode cL_law 544 = .ok (.aload_n 1, 1) := by decide +kernel
theorem dL_law_545 : decode cL_law 545 = .ok (.aload_n 0, 1) := by decide +kernel
theorem dL_law_546 : decode cL_law 546 = .ok (.iload_n 3, 1) := by decide +kernel
theorem dL_law_547 : decode cL_law 547 = .ok (.iconst 1, 1) := by decide +kernel
theorem dL_law_548 : decode cL_law 548 = .ok (.iadd, 1) := by decide +kernel
theorem dL_law_549 : decode cL_law 549 = .ok (.iaload, 1) := by decide +kernel
theorem dL_law_550 : decode cL_law 550 = .ok (.invokevirtual 66, 3) := by decide +kernel
theorem dL_law_553 : decode cL_law 553 = .ok (.aload_n 2, 1) := by decide +kernel
theorem dL_law_554 : decode cL_law 554 = .ok (.aload_n 0, 1) := by decide +kernel
theorem dL_law_555 : decode cL_law 555 = .ok (.iload_n 3, 1) := by decide +kernel
theorem dL_law_556 : decode cL_law 556 = .ok (.iconst 1, 1) := by decide +kernel
theorem dL_law_557 : decode cL_law 557 = .ok (.iadd, 1) := by decide +kernel
theorem dL_law_558 : decode cL_law 558 = .ok (.iaload, 1) := by decide +kernel
theorem dL_law_559 : decode cL_law 559 = .ok (.invokevirtual 69, 3) := by decide +kernel
theorem dL_law_562 : decode cL_law 562 = .ok (.if_icmp .eq 498, 3) := by decide +kernel
theorem dL_law_565 : decode cL_law 565 = .ok (.iconst 0, 1) := by decide +kernel
theorem dL_law_566 : decode cL_law 566 = .ok (.ireturn, 1) := by decide +kernel
theorem dL_law_567 : decode cL_law 567 = .ok (.aload_n 1, 1) := by decide +kernel
theorem dL_law_568 : decode cL_law 568 = .ok (.aload_n 0, 1) := by decide +kernel
theorem dL_law_569 : decode cL_law 569 = .ok (.iload_n 3, 1) := by decide +kernel
theorem dL_law_570 : decode cL_law 570 = .ok (.iconst 1, 1) := by decide +kernel
theorem dL_law_571 : decode cL_law 571 = .ok (.iadd, 1) := by decide +kernel
theorem dL_law_572 : decode cL_law 572 = .ok (.iaload, 1) := by decide +kernel
theorem dL_law_573 : decode cL_law 573 = .ok (.aload_n 0, 1) := by decide +kernel
theorem dL_law_574 : decode cL_law 574 = .ok (.iload_n 3, 1) := by decide +kernel
theorem dL_law_575 : decode cL_law 575 = .ok (.iconst 2, 1) := by decide +kernel
theorem dL_law_576 : decode cL_law 576 = .ok (.iadd, 1) := by decide +kernel
theorem dL_law_577 : decode cL_law 577 = .ok (.iaload, 1) := by decide +kernel
theorem dL_law_578 : decode cL_law 578 = .ok (.aload_n 0, 1) := by decide +kernel
theorem dL_law_579 : decode cL_law 579 = .ok (.iload_n 3, 1) := by decide +kernel
theorem dL_law_580 : decode cL_law 580 = .ok (.iconst 3, 1) := by decide +kernel
theorem dL_law_581 : decode cL_law 581 = .ok (.iadd, 1) := by decide +kernel
theorem dL_law_582 : decode cL_law 582 = .ok (.iaload, 1) := by decide +kernel
theorem dL_law_583 : decode cL_law 583 = .ok (.invokevirtual 70, 3) := by decide +kernel
theorem dL_law_586 : decode cL_law 586 = .ok (.aload_n 2, 1) := by decide +kernel
theorem dL_law_587 : decode cL_law 587 = .ok (.aload_n 0, 1) := by decide +kernel
theorem dL_law_588 : decode cL_law 588 = .ok (.iload_n 3, 1) := by decide +kernel
theorem dL_law_589 : decode cL_law 589 = .ok (.iconst 1, 1) := by decide +kernel
theorem dL_law_590 : decode cL_law 590 = .ok (.iadd, 1) := by decide +kernel
theorem dL_law_591 : decode cL_law 591 = .ok (.iaload, 1) := by decide +kernel
theorem dL_law_592 : decode cL_law 592 = .ok (.aload_n 0, 1) := by decide +kernel
theorem dL_law_593 : decode cL_law 593 = .ok (.iload_n 3, 1) := by decide +kernel
theorem dL_law_594 : decode cL_law 594 = .ok (.iconst 2, 1) := by decide +kernel
end
section
theorem dL_law_595 : decode cL_law 595 = .ok (.iadd, 1) := by decide +kernel
theorem dL_law_596 : decode cL_law 596 = .ok (.iaload, 1) := by decide +kernel
theorem dL_law_597 : decode cL_law 597 = .ok (.aload_n 0, 1) := by decide +kernel
theorem dL_law_598 : decode cL_law 598 = .ok (.iload_n 3, 1) := by decide +kernel
theorem dL_law_599 : decode cL_law 599 = .ok (.iconst 3, 1) := by decide +kernel
theorem dL_law_600 : decode cL_law 600 = .ok (.iadd, 1) := by decide +kernel
theorem dL_law_601 : decode cL_law 601 = .ok (.iaload, 1) := by decide +kernel
theorem dL_law_602 : decode cL_law 602 = .ok (.invokevirtual 74, 3) := by decide +kernel
theorem dL_law_605 : decode cL_law 605 = .ok (.if_icmp .eq 455, 3) := by decide +kernel
theorem dL_law_608 : decode cL_law 608 = .ok (.iconst 0, 1) := by decide +kernel
theorem dL_law_609 : decode cL_law 609 = .ok (.ireturn, 1) := by decide +kernel
theorem dL_law_610 : decode cL_law 610 = .ok (.aload_n 1, 1) := by decide +kernel
theorem dL_law_611 : decode cL_law 611 = .ok (.aload_n 0, 1) := by decide +kernel
theorem dL_law_612 : decode cL_law 612 = .ok (.iload_n 3, 1) := by decide +kernel
theorem dL_law_613 : decode cL_law 613 = .ok (.iconst 1, 1) := by decide +kernel
theorem dL_law_614 : decode cL_law 614 = .ok (.iadd, 1) := by decide +kernel
theorem dL_law_615 : decode cL_law 615 = .ok (.iaload, 1) := by decide +kernel
theorem dL_law_616 : decode cL_law 616 = .ok (.invokevirtual 75, 3) := by decide +kernel
theorem dL_law_619 : decode cL_law 619 = .ok (.aload_n 2, 1) := by decide +kernel
theorem dL_law_620 : decode cL_law 620 = .ok (.aload_n 0, 1) := by decide +kernel
theorem dL_law_621 : decode cL_law 621 = .ok (.iload_n 3, 1) := by decide +kernel
theorem dL_law_622 : decode cL_law 622 = .ok (.iconst 1, 1) := by decide +kernel
theorem dL_law_623 : decode cL_law 623 = .ok (.iadd, 1) := by decide +kernel
theorem dL_law_624 : decode cL_law 624 = .ok (.iaload, 1) := by decide +kernel
theorem dL_law_625 : decode cL_law 625 = .ok (.invokevirtual 78, 3) := by decide +kernel
theorem dL_law_628 : decode cL_law 628 = .ok (.if_icmp .eq 432, 3) := by decide +kernel
theorem dL_law_631 : decode cL_law 631 = .ok (.iconst 0, 1) := by decide +kernel
theorem dL_law_632 : decode cL_law 632 = .ok (.ireturn, 1) := by decide +kernel
theorem dL_law_633 : decode cL_law 633 = .ok (.aload_n 1, 1) := by decide +kernel
theorem dL_law_634 : decode cL_law 634 = .ok (.aload_n 0, 1) := by decide +kernel
theorem dL_law_635 : decode cL_law 635 = .ok (.iload_n 3, 1) := by decide +kernel
theorem dL_law_636 : decode cL_law 636 = .ok (.iconst 1, 1) := by decide +kernel
theorem dL_law_637 : decode cL_law 637 = .ok (.iadd, 1) := by decide +kernel
theorem dL_law_638 : decode cL_law 638 = .ok (.iaload, 1) := by decide +kernel
theorem dL_law_639 : decode cL_law 639 = .ok (.invokevirtual 79, 3) := by decide +kernel
theorem dL_law_642 : decode cL_law 642 = .ok (.aload_n 2, 1) := by decide +kernel
theorem dL_law_643 : decode cL_law 643 = .ok (.aload_n 0, 1) := by decide +kernel
theorem dL_law_644 : decode cL_law 644 = .ok (.iload_n 3, 1) := by decide +kernel
theorem dL_law_645 : decode cL_law 645 = .ok (.iconst 1, 1) := by decide +kernel
theorem dL_law_646 : decode cL_law 646 = .ok (.iadd, 1) := by decide +kernel
theorem dL_law_647 : decode cL_law 647 = .ok (.iaload, 1) := by decide +kernel
theorem dL_law_648 : decode cL_law 648 = .ok (.invokevirtual 82, 3) := by decide +kernel
theorem dL_law_651 : decode cL_law 651 = .ok (.if_icmp .eq 409, 3) := by decide +kernel
theorem dL_law_654 : decode cL_law 654 = .ok (.iconst 0, 1) := by decide +kernel
theorem dL_law_655 : decode cL_law 655 = .ok (.ireturn, 1) := by decide +kernel
theorem dL_law_656 : decode cL_law 656 = .ok (.aload_n 1, 1) := by decide +kernel
theorem dL_law_657 : decode cL_law 657 = .ok (.aload_n 0, 1) := by decide +kernel
theorem dL_law_658 : decode cL_law 658 = .ok (.iload_n 3, 1) := by decide +kernel
theorem dL_law_659 : decode cL_law 659 = .ok (.iconst 1, 1) := by decide +kernel
theorem dL_law_660 : decode cL_law 660 = .ok (.iadd, 1) := by decide +kernel
theorem dL_law_661 : decode cL_law 661 = .ok (.iaload, 1) := by decide +kernel
theorem dL_law_662 : decode cL_law 662 = .ok (.invokevirtual 83, 3) := by decide +kernel
theorem dL_law_665 : decode cL_law 665 = .ok (.aload_n 2, 1) := by decide +kernel
theorem dL_law_666 : decode cL_law 666 = .ok (.aload_n 0, 1) := by decide +kernel
theorem dL_law_667 : decode cL_law 667 = .ok (.iload_n 3, 1) := by decide +kernel
theorem dL_law_668 : decode cL_law 668 = .ok (.iconst 1, 1) := by decide +kernel
theorem dL_law_669 : decode cL_law 669 = .ok (.iadd, 1) := by decide +kernel
theorem dL_law_670 : decode cL_law 670 = .ok (.iaload, 1) := by decide +kernel
theorem dL_law_671 : decode cL_law 671 = .ok (.invokevirtual 86, 3) := by decide +kernel
theorem dL_law_674 : decode cL_law 674 = .ok (.if_icmp .eq 386, 3) := by decide +kernel
theorem dL_law_677 : decode cL_law 677 = .ok (.iconst 0, 1) := by decide +kernel
theorem dL_law_678 : decode cL_law 678 = .ok (.ireturn, 1) := by decide +kernel
theorem dL_law_679 : decode cL_law 679 = .ok (.aload_n 1, 1) := by decide +kernel
theorem dL_law_680 : decode cL_law 680 = .ok (.invokevirtual 87, 3) := by decide +kernel
theorem dL_law_683 : decode cL_law 683 = .ok (.aload_n 2, 1) := by decide +kernel
theorem dL_law_684 : decode cL_law 684 = .ok (.invokevirtual 90, 3) := by decide +kernel
theorem dL_law_687 : decode cL_law 687 = .ok (.if_icmp .eq 373, 3) := by decide +kernel
theorem dL_law_690 : decode cL_law 690 = .ok (.iconst 0, 1) := by decide +kernel
theorem dL_law_691 : decode cL_law 691 = .ok (.ireturn, 1) := by decide +kernel
theorem dL_law_692 : decode cL_law 692 = .ok (.aload_n 1, 1) := by decide +kernel
theorem dL_law_693 : decode cL_law 693 = .ok (.aload_n 0, 1) := by decide +kernel
theorem dL_law_694 : decode cL_law 694 = .ok (.iload_n 3, 1) := by decide +kernel
theorem dL_law_695 : decode cL_law 695 = .ok (.iconst 1, 1) := by decide +kernel
theorem dL_law_696 : decode cL_law 696 = .ok (.iadd, 1) := by decide +kernel
theorem dL_law_697 : decode cL_law 697 = .ok (.iaload, 1) := by decide +kernel
theorem dL_law_698 : decode cL_law 698 = .ok (.invokevirtual 91, 3) := by decide +kernel
theorem dL_law_701 : decode cL_law 701 = .ok (.aload_n 2, 1) := by decide +kernel
theorem dL_law_702 : decode cL_law 702 = .ok (.aload_n 0, 1) := by decide +kernel
theorem dL_law_703 : decode cL_law 703 = .ok (.iload_n 3, 1) := by decide +kernel
theorem dL_law_704 : decode cL_law 704 = .ok (.iconst 1, 1) := by decide +kernel
theorem dL_law_705 : decode cL_law 705 = .ok (.iadd, 1) := by decide +kernel
theorem dL_law_706 : decode cL_law 706 = .ok (.iaload, 1) := by decide +kernel
theorem dL_law_707 : decode cL_law 707 = .ok (.invokevirtual 95, 3) := by decide +kernel
theorem dL_law_710 : decode cL_law 710 = .ok (.lcmp, 1) := by decide +kernel
theorem dL_law_711 : decode cL_law 711 = .ok (.ifCond .eq 349, 3) := by decide +kernel
theorem dL_law_714 : decode cL_law 714 = .ok (.iconst 0, 1) := by decide +kernel
theorem dL_law_715 : decode cL_law 715 = .ok (.ireturn, 1) := by decide +kernel
theorem dL_law_716 : decode cL_law 716 = .ok (.aload_n 1, 1) := by decide +kernel
theorem dL_law_717 : decode cL_law 717 = .ok (.aload_n 0, 1) := by decide +kernel
theorem dL_law_718 : decode cL_law 718 = .ok (.iload_n 3, 1) := by decide +kernel
theorem dL_law_719 : decode cL_law 719 = .ok (.iconst 1, 1) := by decide +kernel
theorem dL_law_720 : decode cL_law 720 = .ok (.iadd, 1) := by decide +kernel
theorem dL_law_721 : decode cL_law 721 = .ok (.iaload, 1) := by decide +kernel
theorem dL_law_722 : decode cL_law 722 = .ok (.aload_n 0, 1) := by decide +kernel
theorem dL_law_723 : decode cL_law 723 = .ok (.iload_n 3, 1) := by decide +kernel
theorem dL_law_724 : decode cL_law 724 = .ok (.iconst 2, 1) := by decide +kernel
theorem dL_law_725 : decode cL_law 725 = .ok (.iadd, 1) := by decide +kernel
theorem dL_law_726 : decode cL_law 726 = .ok (.iaload, 1) := by decide +kernel
theorem dL_law_727 : decode cL_law 727 = .ok (.aload_n 0, 1) := by decide +kernel
theorem dL_law_728 : decode cL_law 728 = .ok (.iload_n 3, 1) := by decide +kernel
theorem dL_law_729 : decode cL_law 729 = .ok (.iconst 3, 1) := by decide +kernel
theorem dL_law_730 : decode cL_law 730 = .ok (.iadd, 1) := by decide +kernel
theorem dL_law_731 : decode cL_law 731 = .ok (.iaload, 1) := by decide +kernel
theorem dL_law_732 : decode cL_law 732 = .ok (.invokevirtual 96, 3) := by decide +kernel
theorem dL_law_735 : decode cL_law 735 = .ok (.aload_n 2, 1) := by decide +kernel
theorem dL_law_736 : decode cL_law 736 = .ok (.aload_n 0, 1) := by decide +kernel
theorem dL_law_737 : decode cL_law 737 = .ok (.iload_n 3, 1) := by decide +kernel
theorem dL_law_738 : decode cL_law 738 = .ok (.iconst 1, 1) := by decide +kernel
theorem dL_law_739 : decode cL_law 739 = .ok (.iadd, 1) := by decide +kernel
theorem dL_law_740 : decode cL_law 740 = .ok (.iaload, 1) := by decide +kernel
theorem dL_law_741 : decode cL_law 741 = .ok (.aload_n 0, 1) := by decide +kernel
theorem dL_law_742 : decode cL_law 742 = .ok (.iload_n 3, 1) := by decide +kernel
theorem dL_law_743 : decode cL_law 743 = .ok (.iconst 2, 1) := by decide +kernel
theorem dL_law_744 : decode cL_law 744 = .ok (.iadd, 1) := by decide +kernel
theorem dL_law_745 : decode cL_law 745 = .ok (.iaload, 1) := by decide +kernel
theorem dL_law_746 : decode cL_law 746 = .ok (.aload_n 0, 1) := by decide +kernel
theorem dL_law_747 : decode cL_law 747 = .ok (.iload_n 3, 1) := by decide +kernel
theorem dL_law_748 : decode cL_law 748 = .ok (.iconst 3, 1) := by decide +kernel
theorem dL_law_749 : decode cL_law 749 = .ok (.iadd, 1) := by decide +kernel
theorem dL_law_750 : decode cL_law 750 = .ok (.iaload, 1) := by decide +kernel
theorem dL_law_751 : decode cL_law 751 = .ok (.invokevirtual 99, 3) := by decide +kernel
theorem dL_law_754 : decode cL_law 754 = .ok (.if_icmp .eq 306, 3) := by decide +kernel
theorem dL_law_757 : decode cL_law 757 = .ok (.iconst 0, 1) := by decide +kernel
theorem dL_law_758 : decode cL_law 758 = .ok (.ireturn, 1) := by decide +kernel
theorem dL_law_759 : decode cL_law 759 = .ok (.aload_n 1, 1) := by decide +kernel
theorem dL_law_760 : decode cL_law 760 = .ok (.aload_n 0, 1) := by decide +kernel
theorem dL_law_761 : decode cL_law 761 = .ok (.iload_n 3, 1) := by decide +kernel
theorem dL_law_762 : decode cL_law 762 = .ok (.iconst 1, 1) := by decide +kernel
theorem dL_law_763 : decode cL_law 763 = .ok (.iadd, 1) := by decide +kernel
theorem dL_law_764 : decode cL_law 764 = .ok (.iaload, 1) := by decide +kernel
theorem dL_law_765 : decode cL_law 765 = .ok (.invokevirtual 100, 3) := by decide +kernel
theorem dL_law_768 : decode cL_law 768 = .ok (.aload_n 2, 1) := by decide +kernel
theorem dL_law_769 : decode cL_law 769 = .ok (.aload_n 0, 1) := by decide +kernel
theorem dL_law_770 : decode cL_law 770 = .ok (.iload_n 3, 1) := by decide +kernel
theorem dL_law_771 : decode cL_law 771 = .ok (.iconst 1, 1) := by decide +kernel
theorem dL_law_772 : decode cL_law 772 = .ok (.iadd, 1) := by decide +kernel
theorem dL_law_773 : decode cL_law 773 = .ok (.iaload, 1) := by decide +kernel
theorem dL_law_774 : decode cL_law 774 = .ok (.invokevirtual 103, 3) := by decide +kernel
theorem dL_law_777 : decode cL_law 777 = .ok (.if_icmp .eq 283, 3) := by decide +kernel
theorem dL_law_780 : decode cL_law 780 = .ok (.iconst 0, 1) := by decide +kernel
theorem dL_law_781 : decode cL_law 781 = .ok (.ireturn, 1) := by decide +kernel
theorem dL_law_782 : decode cL_law 782 = .ok (.aload_n 1, 1) := by decide +kernel
theorem dL_law_783 : decode cL_law 783 = .ok (.aload_n 0, 1) := by decide +kernel
theorem dL_law_784 : decode cL_law 784 = .ok (.iload_n 3, 1) := by decide +kernel
theorem dL_law_785 : decode cL_law 785 = .ok (.iconst 1, 1) := by decide +kernel
theorem dL_law_786 : decode cL_law 786 = .ok (.iadd, 1) := by decide +kernel
theorem dL_law_787 : decode cL_law 787 = .ok (.iaload, 1) := by decide +kernel
theorem dL_law_788 : decode cL_law 788 = .ok (.aload_n 0, 1) := by decide +kernel
theorem dL_law_789 : decode cL_law 789 = .ok (.iload_n 3, 1) := by decide +kernel
theorem dL_law_790 : decode cL_law 790 = .ok (.iconst 2, 1) := by decide +kernel
theorem dL_law_791 : decode cL_law 791 = .ok (.iadd, 1) := by decide +kernel
theorem dL_law_792 : decode cL_law 792 = .ok (.iaload, 1) := by decide +kernel
theorem dL_law_793 : decode cL_law 793 = .ok (.aload_n 0, 1) := by decide +kernel
theorem dL_law_794 : decode cL_law 794 = .ok (.iload_n 3, 1) := by decide +kernel
theorem dL_law_795 : decode cL_law 795 = .ok (.iconst 3, 1) := by decide +kernel
theorem dL_law_796 : decode cL_law 796 = .ok (.iadd, 1) := by decide +kernel
theorem dL_law_797 : decode cL_law 797 = .ok (.iaload, 1) := by decide +kernel
theorem dL_law_798 : decode cL_law 798 = .ok (.invokevirtual 104, 3) := by decide +kernel
theorem dL_law_801 : decode cL_law 801 = .ok (.aload_n 2, 1) := by decide +kernel
theorem dL_law_802 : decode cL_law 802 = .ok (.aload_n 0, 1) := by decide +kernel
theorem dL_law_803 : decode cL_law 803 = .ok (.iload_n 3, 1) := by decide +kernel
theorem dL_law_804 : decode cL_law 804 = .ok (.iconst 1, 1) := by decide +kernel
theorem dL_law_805 : decode cL_law 805 = .ok (.iadd, 1) := by decide +kernel
theorem dL_law_806 : decode cL_law 806 = .ok (.iaload, 1) := by decide +kernel
theorem dL_law_807 : decode cL_law 807 = .ok (.aload_n 0, 1) := by decide +kernel
theorem dL_law_808 : decode cL_law 808 = .ok (.iload_n 3, 1) := by decide +kernel
theorem dL_law_809 : decode cL_law 809 = .ok (.iconst 2, 1) := by decide +kernel
theorem dL_law_810 : decode cL_law 810 = .ok (.iadd, 1) := by decide +kernel
theorem dL_law_811 : decode cL_law 811 = .ok (.iaload, 1) := by decide +kernel
theorem dL_law_812 : decode cL_law 812 = .ok (.aload_n 0, 1) := by decide +kernel
theorem dL_law_813 : decode cL_law 813 = .ok (.iload_n 3, 1) := by decide +kernel
theorem dL_law_814 : decode cL_law 814 = .ok (.iconst 3, 1) := by decide +kernel
theorem dL_law_815 : decode cL_law 815 = .ok (.iadd, 1) := by decide +kernel
theorem dL_law_816 : decode cL_law 816 = .ok (.iaload, 1) := by decide +kernel
theorem dL_law_817 : decode cL_law 817 = .ok (.invokevirtual 107, 3) := by decide +kernel
theorem dL_law_820 : decode cL_law 820 = .ok (.if_icmp .eq 240, 3) := by decide +kernel
theorem dL_law_823 : decode cL_law 823 = .ok (.iconst 0, 1) := by decide +kernel
theorem dL_law_824 : decode cL_law 824 = .ok (.ireturn, 1) := by decide +kernel
theorem dL_law_825 : decode cL_law 825 = .ok (.aload_n 1, 1) := by decide +kernel
theorem dL_law_826 : decode cL_law 826 = .ok (.aload_n 0, 1) := by decide +kernel
theorem dL_law_827 : decode cL_law 827 = .ok (.iload_n 3, 1) := by decide +kernel
theorem dL_law_828 : decode cL_law 828 = .ok (.iconst 1, 1) := by decide +kernel
theorem dL_law_829 : decode cL_law 829 = .ok (.iadd, 1) := by decide +kernel
theorem dL_law_830 : decode cL_law 830 = .ok (.iaload, 1) := by decide +kernel
theorem dL_law_831 : decode cL_law 831 = .ok (.aload_n 0, 1) := by decide +kernel
theorem dL_law_832 : decode cL_law 832 = .ok (.iload_n 3, 1) := by decide +kernel
theorem dL_law_833 : decode cL_law 833 = .ok (.iconst 2, 1) := by decide +kernel
theorem dL_law_834 : decode cL_law 834 = .ok (.iadd, 1) := by decide +kernel
theorem dL_law_835 : decode cL_law 835 = .ok (.iaload, 1) := by decide +kernel
theorem dL_law_836 : decode cL_law 836 = .ok (.aload_n 0, 1) := by decide +kernel
theorem dL_law_837 : decode cL_law 837 = .ok (.iload_n 3, 1) := by decide +kernel
theorem dL_law_838 : decode cL_law 838 = .ok (.iconst 3, 1) := by decide +kernel
theorem dL_law_839 : decode cL_law 839 = .ok (.iadd, 1) := by decide +kernel
theorem dL_law_840 : decode cL_law 840 = .ok (.iaload, 1) := by decide +kernel
theorem dL_law_841 : decode cL_law 841 = .ok (.invokevirtual 108, 3) := by decide +kernel
theorem dL_law_844 : decode cL_law 844 = .ok (.aload_n 2, 1) := by decide +kernel
theorem dL_law_845 : decode cL_law 845 = .ok (.aload_n 0, 1) := by decide +kernel
theorem dL_law_846 : decode cL_law 846 = .ok (.iload_n 3, 1) := by decide +kernel
theorem dL_law_847 : decode cL_law 847 = .ok (.iconst 1, 1) := by decide +kernel
theorem dL_law_848 : decode cL_law 848 = .ok (.iadd, 1) := by decide +kernel
theorem dL_law_849 : decode cL_law 849 = .ok (.iaload, 1) := by decide +kernel
theorem dL_law_850 : decode cL_law 850 = .ok (.aload_n 0, 1) := by decide +kernel
theorem dL_law_851 : decode cL_law 851 = .ok (.iload_n 3, 1) := by decide +kernel
theorem dL_law_852 : decode cL_law 852 = .ok (.iconst 2, 1) := by decide +kernel
theorem dL_law_853 : decode cL_law 853 = .ok (.iadd, 1) := by decide +kernel
theorem dL_law_854 : decode cL_law 854 = .ok (.iaload, 1) := by decide +kernel
theorem dL_law_855 : decode cL_law 855 = .ok (.aload_n 0, 1) := by decide +kernel
theorem dL_law_856 : decode cL_law 856 = .ok (.iload_n 3, 1) := by decide +kernel
theorem dL_law_857 : decode cL_law 857 = .ok (.iconst 3, 1) := by decide +kernel
theorem dL_law_858 : decode cL_law 858 = .ok (.iadd, 1) := by decide +kernel
theorem dL_law_859 : decode cL_law 859 = .ok (.iaload, 1) := by decide +kernel
theorem dL_law_860 : decode cL_law 860 = .ok (.invokevirtual 112, 3) := by decide +kernel
theorem dL_law_863 : decode cL_law 863 = .ok (.lcmp, 1) := by decide +kernel
theorem dL_law_864 : decode cL_law 864 = .ok (.ifCond .eq 196, 3) := by decide +kernel
theorem dL_law_867 : decode cL_law 867 = .ok (.iconst 0, 1) := by decide +kernel
theorem dL_law_868 : decode cL_law 868 = .ok (.ireturn, 1) := by decide +kernel
theorem dL_law_869 : decode cL_law 869 = .ok (.aload_n 1, 1) := by decide +kernel
theorem dL_law_870 : decode cL_law 870 = .ok (.aload_n 0, 1) := by decide +kernel
theorem dL_law_871 : decode cL_law 871 = .ok (.iload_n 3, 1) := by decide +kernel
theorem dL_law_872 : decode cL_law 872 = .ok (.iconst 1, 1) := by decide +kernel
theorem dL_law_873 : decode cL_law 873 = .ok (.iadd, 1) := by decide +kernel
theorem dL_law_874 : decode cL_law 874 = .ok (.iaload, 1) := by decide +kernel
theorem dL_law_875 : decode cL_law 875 = .ok (.aload_n 0, 1) := by decide +kernel
theorem dL_law_876 : decode cL_law 876 = .ok (.iload_n 3, 1) := by decide +kernel
theorem dL_law_877 : decode cL_law 877 = .ok (.iconst 2, 1) := by decide +kernel
theorem dL_law_878 : decode cL_law 878 = .ok (.iadd, 1) := by decide +kernel
theorem dL_law_879 : decode cL_law 879 = .ok (.iaload, 1) := by decide +kernel
theorem dL_law_880 : decode cL_law 880 = .ok (.aload_n 0, 1) := by decide +kernel
theorem dL_law_881 : decode cL_law 881 = .ok (.iload_n 3, 1) := by decide +kernel
theorem dL_law_882 : decode cL_law 882 = .ok (.iconst 3, 1) := by decide +kernel
theorem dL_law_883 : decode cL_law 883 = .ok (.iadd, 1) := by decide +kernel
theorem dL_law_884 : decode cL_law 884 = .ok (.iaload, 1) := by decide +kernel
theorem dL_law_885 : decode cL_law 885 = .ok (.aload_n 0, 1) := by decide +kernel
theorem dL_law_886 : decode cL_law 886 = .ok (.iload_n 3, 1) := by decide +kernel
theorem dL_law_887 : decode cL_law 887 = .ok (.iconst 4, 1) := by decide +kernel
theorem dL_law_888 : decode cL_law 888 = .ok (.iadd, 1) := by decide +kernel
theorem dL_law_889 : decode cL_law 889 = .ok (.iaload, 1) := by decide +kernel
theorem dL_law_890 : decode cL_law 890 = .ok (.aload_n 0, 1) := by decide +kernel
theorem dL_law_891 : decode cL_law 891 = .ok (.iload_n 3, 1) := by decide +kernel
theorem dL_law_892 : decode cL_law 892 = .ok (.iconst 5, 1) := by decide +kernel
theorem dL_law_893 : decode cL_law 893 = .ok (.iadd, 1) := by decide +kernel
theorem dL_law_894 : decode cL_law 894 = .ok (.iaload, 1) := by decide +kernel
theorem dL_law_895 : decode cL_law 895 = .ok (.invokevirtual 113, 3) := by decide +kernel
theorem dL_law_898 : decode cL_law 898 = .ok (.aload_n 2, 1) := by decide +kernel
theorem dL_law_899 : decode cL_law 899 = .ok (.aload_n 0, 1) := by decide +kernel
theorem dL_law_900 : decode cL_law 900 = .ok (.iload_n 3, 1) := by decide +kernel
theorem dL_law_901 : decode cL_law 901 = .ok (.iconst 1, 1) := by decide +kernel
theorem dL_law_902 : decode cL_law 902 = .ok (.iadd, 1) := by decide +kernel
theorem dL_law_903 : decode cL_law 903 = .ok (.iaload, 1) := by decide +kernel
theorem dL_law_904 : decode cL_law 904 = .ok (.aload_n 0, 1) := by decide +kernel
theorem dL_law_905 : decode cL_law 905 = .ok (.iload_n 3, 1) := by decide +kernel
theorem dL_law_906 : decode cL_law 906 = .ok (.iconst 2, 1) := by decide +kernel
theorem dL_law_907 : decode cL_law 907 = .ok (.iadd, 1) := by decide +kernel
theorem dL_law_908 : decode cL_law 908 = .ok (.iaload, 1) := by decide +kernel
theorem dL_law_909 : decode cL_law 909 = .ok (.aload_n 0, 1) := by decide +kernel
theorem dL_law_910 : decode cL_law 910 = .ok (.iload_n 3, 1) := by decide +kernel
theorem dL_law_911 : decode cL_law 911 = .ok (.iconst 3, 1) := by decide +kernel
theorem dL_law_912 : decode cL_law 912 = .ok (.iadd, 1) := by decide +kernel
theorem dL_law_913 : decode cL_law 913 = .ok (.iaload, 1) := by decide +kernel
theorem dL_law_914 : decode cL_law 914 = .ok (.aload_n 0, 1) := by decide +kernel
theorem dL_law_915 : decode cL_law 915 = .ok (.iload_n 3, 1) := by decide +kernel
theorem dL_law_916 : decode cL_law 916 = .ok (.iconst 4, 1) := by decide +kernel
theorem dL_law_917 : decode cL_law 917 = .ok (.iadd, 1) := by decide +kernel
theorem dL_law_918 : decode cL_law 918 = .ok (.iaload, 1) := by decide +kernel
theorem dL_law_919 : decode cL_law 919 = .ok (.aload_n 0, 1) := by decide +kernel
theorem dL_law_920 : decode cL_law 920 = .ok (.iload_n 3, 1) := by decide +kernel
theorem dL_law_921 : decode cL_law 921 = .ok (.iconst 5, 1) := by decide +kernel
theorem dL_law_922 : decode cL_law 922 = .ok (.iadd, 1) := by decide +kernel
theorem dL_law_923 : decode cL_law 923 = .ok (.iaload, 1) := by decide +kernel
theorem dL_law_924 : decode cL_law 924 = .ok (.invokevirtual 116, 3) := by decide +kernel
theorem dL_law_927 : decode cL_law 927 = .ok (.if_icmp .eq 133, 3) := by decide +kernel
theorem dL_law_930 : decode cL_law 930 = .ok (.iconst 0, 1) := by decide +kernel
theorem dL_law_931 : decode cL_law 931 = .ok (.ireturn, 1) := by decide +kernel
theorem dL_law_932 : decode cL_law 932 = .ok (.aload_n 1, 1) := by decide +kernel
theorem dL_law_933 : decode cL_law 933 = .ok (.aload_n 0, 1) := by decide +kernel
theorem dL_law_934 : decode cL_law 934 = .ok (.iload_n 3, 1) := by decide +kernel
theorem dL_law_935 : decode cL_law 935 = .ok (.iconst 1, 1) := by decide +kernel
theorem dL_law_936 : decode cL_law 936 = .ok (.iadd, 1) := by decide +kernel
theorem dL_law_937 : decode cL_law 937 = .ok (.iaload, 1) := by decide +kernel
theorem dL_law_938 : decode cL_law 938 = .ok (.invokevirtual 117, 3) := by decide +kernel
theorem dL_law_941 : decode cL_law 941 = .ok (.aload_n 2, 1) := by decide +kernel
theorem dL_law_942 : decode cL_law 942 = .ok (.aload_n 0, 1) := by decide +kernel
theorem dL_law_943 : decode cL_law 943 = .ok (.iload_n 3, 1) := by decide +kernel
theorem dL_law_944 : decode cL_law 944 = .ok (.iconst 1, 1) := by decide +kernel
theorem dL_law_945 : decode cL_law 945 = .ok (.iadd, 1) := by decide +kernel
theorem dL_law_946 : decode cL_law 946 = .ok (.iaload, 1) := by decide +kernel
theorem dL_law_947 : decode cL_law 947 = .ok (.invokevirtual 120, 3) := by decide +kernel
theorem dL_law_950 : decode cL_law 950 = .ok (.if_icmp .eq 110, 3) := by decide +kernel
theorem dL_law_953 : decode cL_law 953 = .ok (.iconst 0, 1) := by decide +kernel
theorem dL_law_954 : decode cL_law 954 = .ok (.ireturn, 1) := by decide +kernel
theorem dL_law_955 : decode cL_law 955 = .ok (.aload_n 1, 1) := by decide +kernel
theorem dL_law_956 : decode cL_law 956 = .ok (.aload_n 0, 1) := by decide +kernel
theorem dL_law_957 : decode cL_law 957 = .ok (.iload_n 3, 1) := by decide +kernel
theorem dL_law_958 : decode cL_law 958 = .ok (.iconst 1, 1) := by decide +kernel
theorem dL_law_959 : decode cL_law 959 = .ok (.iadd, 1) := by decide +kernel
theorem dL_law_960 : decode cL_law 960 = .ok (.iaload, 1) := by decide +kernel
theorem dL_law_961 : decode cL_law 961 = .ok (.invokevirtual 121, 3) := by decide +kernel
theorem dL_law_964 : decode cL_law 964 = .ok (.aload_n 2, 1) := by decide +kernel
theorem dL_law_965 : decode cL_law 965 = .ok (.aload_n 0, 1) := by decide +kernel
theorem dL_law_966 : decode cL_law 966 = .ok (.iload_n 3, 1) := by decide +kernel
theorem dL_law_967 : decode cL_law 967 = .ok (.iconst 1, 1) := by decide +kernel
theorem dL_law_968 : decode cL_law 968 = .ok (.iadd, 1) := by decide +kernel
theorem dL_law_969 : decode cL_law 969 = .ok (.iaload, 1) := by decide +kernel
theorem dL_law_970 : decode cL_law 970 = .ok (.invokevirtual 124, 3) := by decide +kernel
theorem dL_law_973 : decode cL_law 973 = .ok (.if_icmp .eq 87, 3) := by decide +kernel
theorem dL_law_976 : decode cL_law 976 = .ok (.iconst 0, 1) := by decide +kernel
theorem dL_law_977 : decode cL_law 977 = .ok (.ireturn, 1) := by decide +kernel
theorem dL_law_978 : decode cL_law 978 = .ok (.aload_n 1, 1) := by decide +kernel
theorem dL_law_979 : decode cL_law 979 = .ok (.aload_n 0, 1) := by decide +kernel
theorem dL_law_980 : decode cL_law 980 = .ok (.iload_n 3, 1) := by decide +kernel
theorem dL_law_981 : decode cL_law 981 = .ok (.iconst 1, 1) := by decide +kernel
theorem dL_law_982 : decode cL_law 982 = .ok (.iadd, 1) := by decide +kernel
theorem dL_law_983 : decode cL_law 983 = .ok (.iaload, 1) := by decide +kernel
theorem dL_law_984 : decode cL_law 984 = .ok (.aload_n 0, 1) := by decide +kernel
theorem dL_law_985 : decode cL_law 985 = .ok (.iload_n 3, 1) := by decide +kernel
theorem dL_law_986 : decode cL_law 986 = .ok (.iconst 2, 1) := by decide +kernel
theorem dL_law_987 : decode cL_law 987 = .ok (.iadd, 1) := by decide +kernel
theorem dL_law_988 : decode cL_law 988 = .ok (.iaload, 1) := by decide +kernel
theorem dL_law_989 : decode cL_law 989 = .ok (.invokevirtual 125, 3) := by decide +kernel
theorem dL_law_992 : decode cL_law 992 = .ok (.aload_n 2, 1) := by decide +kernel
theorem dL_law_993 : decode cL_law 993 = .ok (.aload_n 0, 1) := by decide +kernel
theorem dL_law_994 : decode cL_law 994 = .ok (.iload_n 3, 1) := by decide +kernel
theorem dL_law_995 : decode cL_law 995 = .ok (.iconst 1, 1) := by decide +kernel
theorem dL_law_996 : decode cL_law 996 = .ok (.iadd, 1) := by decide +kernel
theorem dL_law_997 : decode cL_law 997 = .ok (.iaload, 1) := by decide +kernel
theorem dL_law_998 : decode cL_law 998 = .ok (.aload_n 0, 1) := by decide +kernel
theorem dL_law_999 : decode cL_law 999 = .ok (.iload_n 3, 1) := by decide +kernel
theorem dL_law_1000 : decode cL_law 1000 = .ok (.iconst 2, 1) := by decide +kernel
theorem dL_law_1001 : decode cL_law 1001 = .ok (.iadd, 1) := by decide +kernel
theorem dL_law_1002 : decode cL_law 1002 = .ok (.iaload, 1) := by decide +kernel
theorem dL_law_1003 : decode cL_law 1003 = .ok (.invokevirtual 128, 3) := by decide +kernel
theorem dL_law_1006 : decode cL_law 1006 = .ok (.if_icmp .eq 54, 3) := by decide +kernel
theorem dL_law_1009 : decode cL_law 1009 = .ok (.iconst 0, 1) := by decide +kernel
theorem dL_law_1010 : decode cL_law 1010 = .ok (.ireturn, 1) := by decide +kernel
theorem dL_law_1011 : decode cL_law 1011 = .ok (.aload_n 1, 1) := by decide +kernel
theorem dL_law_1012 : decode cL_law 1012 = .ok (.invokevirtual 129, 3) := by decide +kernel
theorem dL_law_1015 : decode cL_law 1015 = .ok (.aload_n 2, 1) := by decide +kernel
theorem dL_law_1016 : decode cL_law 1016 = .ok (.invokevirtual 132, 3) := by decide +kernel
theorem dL_law_1019 : decode cL_law 1019 = .ok (.if_icmp .eq 41, 3) := by decide +kernel
theorem dL_law_1022 : decode cL_law 1022 = .ok (.iconst 0, 1) := by decide +kernel
theorem dL_law_1023 : decode cL_law 1023 = .ok (.ireturn, 1) := by decide +kernel
theorem dL_law_1024 : decode cL_law 1024 = .ok (.aload_n 1, 1) := by decide +kernel
theorem dL_law_1025 : decode cL_law 1025 = .ok (.invokevirtual 133, 3) := by decide +kernel
theorem dL_law_1028 : decode cL_law 1028 = .ok (.aload_n 2, 1) := by decide +kernel
theorem dL_law_1029 : decode cL_law 1029 = .ok (.invokevirtual 136, 3) := by decide +kernel
theorem dL_law_1032 : decode cL_law 1032 = .ok (.if_icmp .eq 28, 3) := by decide +kernel
theorem dL_law_1035 : decode cL_law 1035 = .ok (.iconst 0, 1) := by decide +kernel
theorem dL_law_1036 : decode cL_law 1036 = .ok (.ireturn, 1) := by decide +kernel
theorem dL_law_1037 : decode cL_law 1037 = .ok (.aload_n 1, 1) := by decide +kernel
theorem dL_law_1038 : decode cL_law 1038 = .ok (.aload_n 0, 1) := by decide +kernel
theorem dL_law_1039 : decode cL_law 1039 = .ok (.iload_n 3, 1) := by decide +kernel
theorem dL_law_1040 : decode cL_law 1040 = .ok (.iconst 1, 1) := by decide +kernel
theorem dL_law_1041 : decode cL_law 1041 = .ok (.iadd, 1) := by decide +kernel
theorem dL_law_1042 : decode cL_law 1042 = .ok (.iaload, 1) := by decide +kernel
theorem dL_law_1043 : decode cL_law 1043 = .ok (.invokevirtual 137, 3) := by decide +kernel
theorem dL_law_1046 : decode cL_law 1046 = .ok (.aload_n 2, 1) := by decide +kernel
theorem dL_law_1047 : decode cL_law 1047 = .ok (.aload_n 0, 1) := by decide +kernel
theorem dL_law_1048 : decode cL_law 1048 = .ok (.iload_n 3, 1) := by decide +kernel
theorem dL_law_1049 : decode cL_law 1049 = .ok (.iconst 1, 1) := by decide +kernel
theorem dL_law_1050 : decode cL_law 1050 = .ok (.iadd, 1) := by decide +kernel
theorem dL_law_1051 : decode cL_law 1051 = .ok (.iaload, 1) := by decide +kernel
theorem dL_law_1052 : decode cL_law 1052 = .ok (.invokevirtual 140, 3) := by decide +kernel
theorem dL_law_1055 : decode cL_law 1055 = .ok (.if_icmp .eq 5, 3) := by decide +kernel
theorem dL_law_1058 : decode cL_law 1058 = .ok (.iconst 0, 1) := by decide +kernel
theorem dL_law_1059 : decode cL_law 1059 = .ok (.ireturn, 1) := by decide +kernel
theorem dL_law_1060 : decode cL_law 1060 = .ok (.iinc 3 6, 3) := by decide +kernel
theorem dL_law_1063 : decode cL_law 1063 = .ok (.goto (-1045), 3) := by decide +kernel
theorem dL_law_1066 : decode cL_law 1066 = .ok (.iconst 1, 1) := by decide +kernel
theorem dL_law_1067 : decode cL_law 1067 = .ok (.ireturn, 1) := by decide +kernel
end
section
theorem tb_good : ∀ w ∈ tbg, goodWord w = true := fun w h => (List.mem_filter.mp h).2
abbrev classes : List vw_C := [(RX0, TX0, 9), (RX1, TX1, 4), (RX2, TX2, 3), (RX3, TX3, 4), (RX4, TX4, 7), (RX5, TX5, 25)]
abbrev tysA (cI cS : ClassId) : List (ClassId × FieldType) := [(cI, .int), (cS, .object RX2)]
theorem inl0 : ∀ w ∈ wsX00, w ∈ lw_tbl := by decide +kernel
theorem ing0 : wsX00.all goodWord = true := by decide +kernel
theorem inX0 : ∀ w ∈ wsX00, w ∈ tbg := fun w h => List.mem_filter.mpr ⟨inl0 w h, List.all_eq_true.mp ing0 w h⟩
theorem inl1 : ∀ w ∈ wsX10, w ∈ lw_tbl := by decide +kernel
theorem ing1 : wsX10.all goodWord = true := by decide +kernel
theorem inX1 : ∀ w ∈ wsX10, w ∈ tbg := fun w h => List.mem_filter.mpr ⟨inl1 w h, List.all_eq_true.mp ing1 w h⟩
theorem inl2 : ∀ w ∈ wsX20, w ∈ lw_tbl := by decide +kernel
theorem ing2 : wsX20.all goodWord = true := by decide +kernel
theorem inX2 : ∀ w ∈ wsX20, w ∈ tbg := fun w h => List.mem_filter.mpr ⟨inl2 w h, List.all_eq_true.mp ing2 w h⟩
theorem inl3 : ∀ w ∈ wsX30, w ∈ lw_tbl := by decide +kernel
theorem ing3 : wsX30.all goodWord = true := by decide +kernel
theorem inX3 : ∀ w ∈ wsX30, w ∈ tbg := fun w h => List.mem_filter.mpr ⟨inl3 w h, List.all_eq_true.mp ing3 w h⟩
theorem inl4 : ∀ w ∈ wsX40, w ∈ lw_tbl := by decide +kernel
theorem ing4 : wsX40.all goodWord = true := by decide +kernel
theorem inX4 : ∀ w ∈ wsX40, w ∈ tbg := fun w h => List.mem_filter.mpr ⟨inl4 w h, List.all_eq_true.mp ing4 w h⟩
theorem inl5 : ∀ w ∈ wsX50, w ∈ lw_tbl := by decide +kernel
theorem ing5 : wsX50.all goodWord = true := by decide +kernel
theorem inX5 : ∀ w ∈ wsX50, w ∈ tbg := fun w h => List.mem_filter.mpr ⟨inl5 w h, List.all_eq_true.mp ing5 w h⟩
def NWs (U : State) : Prop := ∀ w ∈ nws, va_Nw w U
theorem NWs.warm {s U : State} (hW : s.WarmedH U.vm) (h : NWs s) : NWs U := by
  intro w hw
  have h1 := h w hw
  simp only [nws, List.mem_cons, List.not_mem_nil, or_false] at hw
  rcases hw with rfl | rfl | rfl | rfl | rfl | rfl | rfl | rfl | rfl | rfl | rfl | rfl | rfl | rfl | rfl <;> first | exact va_Nw.warmF hW h1 | exact va_Nw.warmM hW h1
theorem NWs.same {u U : State} (e : u.vm = U.vm) (h : NWs u) : NWs U := by
  intro w hw
  have h1 := h w hw
  simp only [nws, List.mem_cons, List.not_mem_nil, or_false] at hw
  rcases hw with rfl | rfl | rfl | rfl | rfl | rfl | rfl | rfl | rfl | rfl | rfl | rfl | rfl | rfl | rfl <;> exact va_Nw.same rfl e h1
def PcW (D : va_G) (ty : List (ClassId × FieldType)) (w0 : va_W) (sz : Nat) (av : List Value) : Array Value → State → Prop := va_Pc av (fun U => U.heap.size = sz ∧ va_P D classes w0 U.heap ∧ va_K D classes ty U ∧ NWs U ∧ va_D (fun _ => True) w0)
def QW (D : va_G) (ty : List (ClassId × FieldType)) (v : Option Value) (w1 : va_W) (A : Nat → Prop) : Array Value → State → Outcome → State → Prop := fun _ st oc t => (oc = .returned v ∧ va_P D classes w1 t.heap ∧ va_D A w1) ∧ va_F A st t
def Ct (l : Launch) (D : va_G) (ty : List (ClassId × FieldType)) (y : MethodName) (cc : ByteArray) (mx : Nat) (ret : Option FieldType) (rm : Room) (av : List Value) (w0 : va_W) (v : Option Value) (w1 : va_W) : Prop := ∀ sz : Nat, Met l y (Cond.code y cc mx ret :: tbg) rm (PcW D ty w0 sz av) (QW D ty v w1 (va_A w0 sz)) 0 0 (va_A w0 sz)
def Cx (p : Program) (s : State) (m : MethodId) (args : Array Value) (meth : Method) (c : Code) (own : String) (cc : ByteArray) (mx : Nat) (ret : Option FieldType) : Prop :=
  p.tables.exec = Jvm.exec ∧ c.code = cc ∧ meth.sig.returnType = ret ∧ c.maxLocals = mx ∧ s.vm.findClass own = some m.cls ∧ (∀ w ∈ tbg, w.before args s = true) ∧ meth.locks = false ∧ NWs s
def Rm (d : Nat) : Room := { frames := d, cells := 0, slots := 0, locals := 33 * d }
theorem Ct_of {l : Launch} {D : va_G} {ty : List (ClassId × FieldType)} {y : MethodName} {cc : ByteArray} {mx : Nat} {ret : Option FieldType} {rm : Room} {av : List Value} {w0 : va_W} {v : Option Value} {w1 : va_W} (hy : plainName y.cls = true) (hlen : (lg_sl av).length ≤ mx)
    (body : ∀ (p : Program) (e : Env) (s : State) (m : MethodId) (args : Array Value) (below : List Frame) (meth : Method) (c : Code) (A : Nat → Prop) (ls : Array Slot), Cx p s m args meth c y.cls cc mx ret → va_K D classes ty s → (∀ q, s.heap.size ≤ q → A q) → va_P D classes w0 s.heap → va_D A w0 → va_S A s.heap s.heap [] → lv_has ls mx (lv_args 0 av) → W p l e rm s m args below meth c s.heap [] 0 0 (MQ below (QW D ty v w1 A) args s 0 0 A) (F0 m 0 ls [])) : Ct l D ty y cc mx ret rm av w0 v w1 := by
  intro sz
  refine Met.ofW (cc := cc) (maxL := mx) (ret := ret) hy rfl ?_
  intro p e s m args below meth c s₁ B hml hv
  obtain ⟨rfl, hsz, hP, hK, hN, hD0⟩ := hv
  subst hsz
  have hts := atoms_spec (ws := Cond.code y cc mx ret :: tbg) B.pre
  have hl := lv_entry av (n := mx) hlen
  rw [lg_entry_eq]
  exact body p e s m _ below meth c (va_A w0 s.heap.size) _ ⟨B.exec, B.bytes, B.returns, hml, findClass_of_methodNamed B.named, fun w h => hts w (List.mem_cons_of_mem _ h), B.notSynchronized, hN⟩ hK (fun q h => Or.inr h) hP hD0.self va_S.rf hl
section KX
variable {p : Program} {l : Launch} {e : Env} {R : Room} {s : State} {m : MethodId} {args : Array Value} {below : List Frame} {meth : Method} {c : Code} {H : Heap} {locs : List Loc} {cells slots : Nat} {Q : State → Prop}
variable {cc : ByteArray} {pc mx : Nat} {ls : Array Slot} {rest : List Value} {A : Nat → Prop} {D : va_G} {ty : List (ClassId × FieldType)} {own : String} {w1 : va_W}
theorem rt_i {v : Int32} (C : Cx p s m args meth c own cc mx (some .int)) (hK : va_K D classes ty s) (hP : va_P D classes w1 H) (hD : va_D A w1) (hS : va_S A s.heap H locs) (hdg : decode cc pc = .ok (.ireturn, 1)) : W p l e R s m args below meth c H locs 0 0 (MQ below (QW D ty (some (.int v)) w1 A) args s 0 0 A) (F0 m pc ls [.int v]) :=
  W.iret (v := v) C.1 C.2.1 C.2.2.1 (fun t ht hW => ⟨⟨rfl, by rw [ht]; exact hP, hD⟩, hS.F ht⟩) hS.2.2 hdg (hlocks := C.2.2.2.2.2.2.1)
theorem rt_z {v : Int32} (C : Cx p s m args meth c own cc mx (some .boolean)) (hn : narrow .boolean (.int v) = .int v) (hK : va_K D classes ty s) (hP : va_P D classes w1 H) (hD : va_D A w1) (hS : va_S A s.heap H locs) (hdg : decode cc pc = .ok (.ireturn, 1)) : W p l e R s m args below meth c H locs 0 0 (MQ below (QW D ty (some (.int v)) w1 A) args s 0 0 A) (F0 m pc ls [.int v]) :=
  W.zret (v := v) C.1 C.2.1 C.2.2.1 hn (fun t ht hW => ⟨⟨rfl, by rw [ht]; exact hP, hD⟩, hS.F ht⟩) hS.2.2 hdg (hlocks := C.2.2.2.2.2.2.1)
theorem rt_l {v : Int64} (C : Cx p s m args meth c own cc mx (some .long)) (hK : va_K D classes ty s) (hP : va_P D classes w1 H) (hD : va_D A w1) (hS : va_S A s.heap H locs) (hdg : decode cc pc = .ok (.lreturn, 1)) : W p l e R s m args below meth c H locs 0 0 (MQ below (QW D ty (some (.long v)) w1 A) args s 0 0 A) (F0 m pc ls [.long v]) :=
  W.lret (v := v) C.1 C.2.1 C.2.2.1 (fun t ht hW => ⟨⟨rfl, by rw [ht]; exact hP, hD⟩, hS.F ht⟩) hS.2.2 hdg (hlocks := C.2.2.2.2.2.2.1)
theorem rt_v (C : Cx p s m args meth c own cc mx none) (hK : va_K D classes ty s) (hP : va_P D classes w1 H) (hD : va_D A w1) (hS : va_S A s.heap H locs) (hdg : decode cc pc = .ok (.return_, 1)) : W p l e R s m args below meth c H locs 0 0 (MQ below (QW D ty none w1 A) args s 0 0 A) (F0 m pc ls []) :=
  W.vret C.1 C.2.1 C.2.2.1 (fun t ht hW => ⟨⟨rfl, by rw [ht]; exact hP, hD⟩, hS.F ht⟩) hS.2.2 hdg (hlocks := C.2.2.2.2.2.2.1)
theorem kx_call {v : Option Value} {wc : va_W} {st0 : List Value} {a : Array Value} (hr : va_Run p l e R s m args below meth c H locs cells slots 0 0 (F0 m pc ls st0) rest (QW D ty v w1 (va_A wc H.size) a) (va_A wc H.size)) (hS : va_S A s.heap H locs) (hF : ∀ q, va_A wc H.size q → A q)
    (kk : ∀ (H1 : Heap) (locs1 : List Loc), va_P D classes w1 H1 → va_D (va_A wc H.size) w1 → (∀ q : Nat, q < H.size → ¬ va_A wc H.size q → H1[q]? = H[q]?) → va_S A s.heap H1 locs1 → W p l e R s m args below meth c H1 locs1 cells slots Q (F0 m (pc + 3) ls (v.toList ++ rest))) : W p l e R s m args below meth c H locs cells slots Q (F0 m pc ls st0) := by
  intro T hT X
  obtain ⟨v', st₀, t, T', L, h0, X', hL, e1, e2, ⟨⟨hv, hP1, hD1⟩, hz, hk⟩, st⟩ := hr T hT X
  cases hv
  rw [h0] at hz hk
  rw [← e1] at hP1
  obtain ⟨t2, a1, b1⟩ := kk T'.heap (locs ++ L) hP1 hD1 (fun q h1 h2 => by rw [e1]; exact hk q h1 h2)
    ⟨Nat.le_trans hS.1 (by rw [e1]; exact hz), fun q h1 h2 => by rw [e1, hk q (Nat.lt_of_lt_of_le h1 hS.1) (fun z => h2 (hF q z))]; exact hS.2.1 q h1 h2, fun q hq => by
      rcases List.mem_append.mp hq with h | h
      · exact hS.2.2 q h
      · exact hF _ (hL q h)⟩ T' rfl X'
  exact ⟨t2, st t2 a1, b1⟩
theorem kx_blind {w0 : va_W} {sz : Nat} {av : List Value} : FrameBlind (PcW D ty w0 sz av) := by
  intro a U g mk q
  obtain ⟨q0, q1, qP, qK, qN, qD⟩ := q
  exact ⟨q0, q1, qP, va_K.moved (u := U) (U := U.calling g mk a) (Vm.Alike.refl U.vm) qK, NWs.same (u := U) rfl qN, qD⟩
theorem kx_pay (hts : ∀ w ∈ tbg, w.before args s = true) {y : MethodName} {bytes : ByteArray} {mx' : Nat} {ret' : Option FieldType} (hc : Cond.code y bytes mx' ret' ∈ tbg) : GoodIn tbg (Cond.code y bytes mx' ret' :: tbg) := by
  have h1 : ∀ w ∈ tbg, w ∈ tbg ∧ ((w.onTables && w.keeps) = true ∨ ∃ ty, w = .arrayClass ty) := fun w h => ⟨h, good_of_word (tb_good w h)⟩
  intro w hw
  rcases List.mem_cons.mp hw with rfl | h
  · exact h1 _ hc
  · exact h1 _ h
/-- a call of an instance method: its cells wc stand in ws at isC, the rest wr at isR; behind it the world is ws' -/
theorem cV {y : MethodName} {bytes : ByteArray} {mx' n idx ci NN b : Nat} {ret ret' : Option FieldType} {rm : Room} {C : String} {TT : u_T} {fs As st0 : List Value} {v : Option Value} {ws wc ws' : va_W} {st1 : List Value}
    (Cc : Cx p s m args meth c own cc mx ret) (hK : va_K D classes ty s) (hA : ∀ q, s.heap.size ≤ q → A q) (hP : va_P D classes ws H) (hD : va_D A ws) (hS : va_S A s.heap H locs) (hl : ls.size = mx)
    (ct : Ct l D ty y bytes mx' ret' rm (.ref b :: As) wc v w1) (wd : Cond.code y bytes mx' ret' ∈ tbg ∧ Cond.methodLink own idx y ∈ tbg ∧ Cond.instanceMethod y ∈ tbg ∧ Cond.selects C y y ∈ tbg ∧ Cond.initialized C ∈ tbg)
    (hd : y.cls = C ∧ y.cls ≠ "java/lang/invoke/MethodHandle" ∧ y.cls ≠ "java/lang/invoke/VarHandle" ∧ (parseMethodDescriptor y.desc).map (fun d => d.parameters.length) = some n)
    (hR : rm.cells = 0 ∧ rm.slots = 0 ∧ rm.frames + 1 ≤ R.frames ∧ 8 + (mx' + 11) + rm.locals ≤ R.locals) (hn : As.length = n) (hdg : decode cc pc = .ok (.invokevirtual idx, 3)) (hst : st0 = As.reverse ++ .ref b :: rest) (hW : (rest.map fun v => v.category).sum ≤ 8) (hf : cells ≤ R.cells ∧ slots ≤ R.slots) (hs1 : v.toList ++ rest = st1)
    (hr0 : wc[0]? = some (b, .inr (ci, fs))) (hcc : classes[ci]? = some (C, TT, NN))
    (isC isR pm : List Nat) (hC : isC.map (fun i => ws[i]?) = wc.map some) (hR1 : isR.map (fun i => ws[i]?) = (isR.filterMap (fun i => ws[i]?)).map some) (hnn : va_nd isC = true ∧ va_nd isR = true ∧ va_nd pm = true ∧ ∀ i ∈ isR, i ∉ isC) (hpm : pm.map (fun i => (isR.filterMap (fun i => ws[i]?) ++ w1)[i]?) = ws'.map some)
    (kk : ∀ (H1 : Heap) (locs1 : List Loc), va_P D classes ws' H1 → va_D A ws' → va_S A s.heap H1 locs1 → W p l e R s m args below meth c H1 locs1 cells slots Q (F0 m (pc + 3) ls st1)) : W p l e R s m args below meth c H locs cells slots Q (F0 m pc ls st0) := by
  subst hs1
  obtain ⟨hx, hb, hr, hml, hown, hts, hlk, hnw⟩ := Cc
  obtain ⟨w1c, w2c, w3c, w4c, w5c⟩ := wd
  obtain ⟨rfl, hd⟩ := hd
  have hDc := hD.sub isC hnn.1 hC
  have hPc : va_P D classes wc H := by
    intro k q hk
    have h1 : (isC.map (fun i => ws[i]?))[k]? = some (some q) := by rw [hC, List.getElem?_map, hk]; rfl
    rw [List.getElem?_map] at h1
    obtain ⟨i, -, hi⟩ := Option.map_eq_some_iff.mp h1
    exact hP i q hi
  have hFc := va_free (wc := wc) hD hS hA isC hC
  have cb : CallW R s args own y.cls idx y bytes mx' ret' (Cond.code y bytes mx' ret' :: tbg) rm 0 0 n := ⟨callB_of n hts (kx_pay hts w1c) rfl hR.1 hR.2.1 (hts _ w5c) (hts _ w2c) hd hR.2.2, hts _ w3c, hts _ w4c⟩
  refine kx_call (va_runV (As := As) (b := b) (rest := rest) (g := F0 m pc ls st0) ⟨hx, hb, hml, hown, hts⟩ (ct H.size) cb ⟨kx_blind, va_recv hK hPc hcc hr0, fun U hU hW => ⟨rfl, by rw [hU], by rw [hU]; exact hPc, va_K.moved hW.alike hK, NWs.warm hW hnw, hDc.weaken (fun _ _ _ _ => trivial)⟩⟩ rfl hn hl hst (lv_room hW) hdg hf) hS hFc (fun H1 locs1 hP1 hD1 hk1 hS1 => ?_)
  obtain ⟨hP2, hD2⟩ := va_join (wr := isR.filterMap (fun i => ws[i]?)) (w1 := w1) hP hD isC isR hC hR1 hnn.2.1 hnn.2.2.2 hk1 hFc hP1 hD1
  refine kk H1 locs1 ?_ (hD2.sub pm hnn.2.2.1 hpm) hS1
  intro k q hk
  have h1 : (pm.map (fun i => (isR.filterMap (fun i => ws[i]?) ++ w1)[i]?))[k]? = some (some q) := by rw [hpm, List.getElem?_map, hk]; rfl
  rw [List.getElem?_map] at h1
  obtain ⟨i, -, hi⟩ := Option.map_eq_some_iff.mp h1
  exact hP2 i q hi
/-- the same of a static method -/
theorem cS {y : MethodName} {bytes : ByteArray} {mx' n idx : Nat} {ret ret' : Option FieldType} {rm : Room} {As st0 : List Value} {v : Option Value} {ws wc ws' : va_W} {st1 : List Value}
    (Cc : Cx p s m args meth c own cc mx ret) (hK : va_K D classes ty s) (hA : ∀ q, s.heap.size ≤ q → A q) (hP : va_P D classes ws H) (hD : va_D A ws) (hS : va_S A s.heap H locs) (hl : ls.size = mx)
    (ct : Ct l D ty y bytes mx' ret' rm As wc v w1) (wd : Cond.code y bytes mx' ret' ∈ tbg ∧ Cond.methodLink own idx y ∈ tbg ∧ Cond.static y ∈ tbg ∧ Cond.initialized y.cls ∈ tbg)
    (hd : y.cls ≠ "java/lang/invoke/MethodHandle" ∧ y.cls ≠ "java/lang/invoke/VarHandle" ∧ (parseMethodDescriptor y.desc).map (fun d => d.parameters.length) = some n)
    (hR : rm.cells = 0 ∧ rm.slots = 0 ∧ rm.frames + 1 ≤ R.frames ∧ 8 + (mx' + 11) + rm.locals ≤ R.locals) (hn : As.length = n) (hdg : decode cc pc = .ok (.invokestatic idx, 3)) (hst : st0 = As.reverse ++ rest) (hW : (rest.map fun v => v.category).sum ≤ 8) (hf : cells ≤ R.cells ∧ slots ≤ R.slots) (hs1 : v.toList ++ rest = st1)
    (isC isR pm : List Nat) (hC : isC.map (fun i => ws[i]?) = wc.map some) (hR1 : isR.map (fun i => ws[i]?) = (isR.filterMap (fun i => ws[i]?)).map some) (hnn : va_nd isC = true ∧ va_nd isR = true ∧ va_nd pm = true ∧ ∀ i ∈ isR, i ∉ isC) (hpm : pm.map (fun i => (isR.filterMap (fun i => ws[i]?) ++ w1)[i]?) = ws'.map some)
    (kk : ∀ (H1 : Heap) (locs1 : List Loc), va_P D classes ws' H1 → va_D A ws' → va_S A s.heap H1 locs1 → W p l e R s m args below meth c H1 locs1 cells slots Q (F0 m (pc + 3) ls st1)) : W p l e R s m args below meth c H locs cells slots Q (F0 m pc ls st0) := by
  subst hs1
  obtain ⟨hx, hb, hr, hml, hown, hts, hlk, hnw⟩ := Cc
  obtain ⟨w1c, w2c, w3c, w4c⟩ := wd
  have hDc := hD.sub isC hnn.1 hC
  have hPc : va_P D classes wc H := by
    intro k q hk
    have h1 : (isC.map (fun i => ws[i]?))[k]? = some (some q) := by rw [hC, List.getElem?_map, hk]; rfl
    rw [List.getElem?_map] at h1
    obtain ⟨i, -, hi⟩ := Option.map_eq_some_iff.mp h1
    exact hP i q hi
  have hFc := va_free (wc := wc) hD hS hA isC hC
  have cb : CallB R s args own idx y bytes mx' ret' (Cond.code y bytes mx' ret' :: tbg) rm 0 0 n ∧ (Cond.static y).before args s = true := ⟨callB_of n hts (kx_pay hts w1c) rfl hR.1 hR.2.1 (hts _ w4c) (hts _ w2c) hd hR.2.2, hts _ w3c⟩
  refine kx_call (va_runS (As := As) (rest := rest) (g := F0 m pc ls st0) ⟨hx, hb, hml, hown, hts⟩ (ct H.size) cb ⟨kx_blind, fun U hU hW => ⟨rfl, by rw [hU], by rw [hU]; exact hPc, va_K.moved hW.alike hK, NWs.warm hW hnw, hDc.weaken (fun _ _ _ _ => trivial)⟩⟩ rfl hn hl hst (lv_room hW) hdg hf) hS hFc (fun H1 locs1 hP1 hD1 hk1 hS1 => ?_)
  obtain ⟨hP2, hD2⟩ := va_join (wr := isR.filterMap (fun i => ws[i]?)) (w1 := w1) hP hD isC isR hC hR1 hnn.2.1 hnn.2.2.2 hk1 hFc hP1 hD1
  refine kk H1 locs1 ?_ (hD2.sub pm hnn.2.2.1 hpm) hS1
  intro k q hk
  have h1 : (pm.map (fun i => (isR.filterMap (fun i => ws[i]?) ++ w1)[i]?))[k]? = some (some q) := by rw [hpm, List.getElem?_map, hk]; rfl
  rw [List.getElem?_map] at h1
  obtain ⟨i, -, hi⟩ := Option.map_eq_some_iff.mp h1
  exact hP2 i q hi
/-- of a nest mate's static method -/
theorem cSN {y : MethodName} {bytes : ByteArray} {mx' n idx : Nat} {host : String} {ret ret' : Option FieldType} {rm : Room} {As st0 : List Value} {v : Option Value} {ws wc ws' : va_W} {st1 : List Value}
    (Cc : Cx p s m args meth c own cc mx ret) (hK : va_K D classes ty s) (hA : ∀ q, s.heap.size ≤ q → A q) (hP : va_P D classes ws H) (hD : va_D A ws) (hS : va_S A s.heap H locs) (hl : ls.size = mx)
    (ct : Ct l D ty y bytes mx' ret' rm As wc v w1) (wd : Cond.code y bytes mx' ret' ∈ tbg ∧ Cond.methodLinkNest own idx y host ∈ nws ∧ Cond.static y ∈ tbg ∧ Cond.initialized y.cls ∈ tbg)
    (hd : y.cls ≠ "java/lang/invoke/MethodHandle" ∧ y.cls ≠ "java/lang/invoke/VarHandle" ∧ (parseMethodDescriptor y.desc).map (fun d => d.parameters.length) = some n)
    (hR : rm.cells = 0 ∧ rm.slots = 0 ∧ rm.frames + 1 ≤ R.frames ∧ 8 + (mx' + 11) + rm.locals ≤ R.locals) (hn : As.length = n) (hdg : decode cc pc = .ok (.invokestatic idx, 3)) (hst : st0 = As.reverse ++ rest) (hW : (rest.map fun v => v.category).sum ≤ 8) (hf : cells ≤ R.cells ∧ slots ≤ R.slots) (hs1 : v.toList ++ rest = st1)
    (isC isR pm : List Nat) (hC : isC.map (fun i => ws[i]?) = wc.map some) (hR1 : isR.map (fun i => ws[i]?) = (isR.filterMap (fun i => ws[i]?)).map some) (hnn : va_nd isC = true ∧ va_nd isR = true ∧ va_nd pm = true ∧ ∀ i ∈ isR, i ∉ isC) (hpm : pm.map (fun i => (isR.filterMap (fun i => ws[i]?) ++ w1)[i]?) = ws'.map some)
    (kk : ∀ (H1 : Heap) (locs1 : List Loc), va_P D classes ws' H1 → va_D A ws' → va_S A s.heap H1 locs1 → W p l e R s m args below meth c H1 locs1 cells slots Q (F0 m (pc + 3) ls st1)) : W p l e R s m args below meth c H locs cells slots Q (F0 m pc ls st0) := by
  subst hs1
  obtain ⟨hx, hb, hr, hml, hown, hts, hlk, hnw⟩ := Cc
  obtain ⟨w1c, w2c, w3c, w4c⟩ := wd
  have hDc := hD.sub isC hnn.1 hC
  have hPc : va_P D classes wc H := by
    intro k q hk
    have h1 : (isC.map (fun i => ws[i]?))[k]? = some (some q) := by rw [hC, List.getElem?_map, hk]; rfl
    rw [List.getElem?_map] at h1
    obtain ⟨i, -, hi⟩ := Option.map_eq_some_iff.mp h1
    exact hP i q hi
  have hFc := va_free (wc := wc) hD hS hA isC hC
  have cb : va_CN R s args own idx y host bytes mx' ret' (Cond.code y bytes mx' ret' :: tbg) rm 0 0 n ∧ (Cond.static y).before args s = true ∧ True := ⟨va_cnB n hts (kx_pay hts w1c) rfl hR.1 hR.2.1 (hnw _ w2c) (hts _ w4c) hd hR.2.2, hts _ w3c, trivial⟩
  refine kx_call (va_runSN (As := As) (rest := rest) (g := F0 m pc ls st0) ⟨hx, hb, hml, hown, hts⟩ (ct H.size) cb ⟨kx_blind, fun U hU hW => ⟨rfl, by rw [hU], by rw [hU]; exact hPc, va_K.moved hW.alike hK, NWs.warm hW hnw, hDc.weaken (fun _ _ _ _ => trivial)⟩⟩ rfl hn hl hst (lv_room hW) hdg hf) hS hFc (fun H1 locs1 hP1 hD1 hk1 hS1 => ?_)
  obtain ⟨hP2, hD2⟩ := va_join (wr := isR.filterMap (fun i => ws[i]?)) (w1 := w1) hP hD isC isR hC hR1 hnn.2.1 hnn.2.2.2 hk1 hFc hP1 hD1
  refine kk H1 locs1 ?_ (hD2.sub pm hnn.2.2.1 hpm) hS1
  intro k q hk
  have h1 : (pm.map (fun i => (isR.filterMap (fun i => ws[i]?) ++ w1)[i]?))[k]? = some (some q) := by rw [hpm, List.getElem?_map, hk]; rfl
  rw [List.getElem?_map] at h1
  obtain ⟨i, -, hi⟩ := Option.map_eq_some_iff.mp h1
  exact hP2 i q hi
end KX
/-- an index is looked at -/
def gd {α : Type} (i : Int32) (n : Nat) (k : Option α) : Option α := if i < 0 ∨ n ≤ i.toNatClampNeg then none else k
theorem gd_some {α : Type} {i : Int32} {n : Nat} {k : Option α} {r : α} (h : gd i n k = some r) : vp_in i n ∧ k = some r := by
  unfold gd at h
  by_cases q : i < 0 ∨ n ≤ i.toNatClampNeg
  · rw [if_pos q] at h; cases h
  · rw [if_neg q] at h; exact ⟨q, h⟩
def nz {α : Type} (i : Int32) (k : Option α) : Option α := if i = 0 then none else k
theorem nz_some {α : Type} {i : Int32} {k : Option α} {r : α} (h : nz i k = some r) : ¬ i = 0 ∧ k = some r := by
  unfold nz at h
  by_cases q : i = 0
  · rw [if_pos q] at h; cases h
  · rw [if_neg q] at h; exact ⟨q, h⟩
def nzl {α : Type} (i : Int64) (k : Option α) : Option α := if i = 0 then none else k
theorem nzl_some {α : Type} {i : Int64} {k : Option α} {r : α} (h : nzl i k = some r) : ¬ i = 0 ∧ k = some r := by
  unfold nzl at h
  by_cases q : i = 0
  · rw [if_pos q] at h; cases h
  · rw [if_neg q] at h; exact ⟨q, h⟩
/-- arraycopy's places are looked at -/
def cpg {α : Type} (sp dp n : Int32) (n0 n1 : Nat) (k : Option α) : Option α := if sp < 0 ∨ dp < 0 ∨ n < 0 ∨ n0 < sp.toNatClampNeg + n.toNatClampNeg ∨ n1 < dp.toNatClampNeg + n.toNatClampNeg then none else k
theorem cpg_some {α : Type} {sp dp n : Int32} {n0 n1 : Nat} {k : Option α} {r : α} (h : cpg sp dp n n0 n1 k = some r) : (¬ sp < 0 ∧ ¬ dp < 0 ∧ ¬ n < 0 ∧ sp.toNatClampNeg + n.toNatClampNeg ≤ n0 ∧ dp.toNatClampNeg + n.toNatClampNeg ≤ n1) ∧ k = some r := by
  unfold cpg at h
  by_cases q : sp < 0 ∨ dp < 0 ∨ n < 0 ∨ n0 < sp.toNatClampNeg + n.toNatClampNeg ∨ n1 < dp.toNatClampNeg + n.toNatClampNeg
  · rw [if_pos q] at h; cases h
  · rw [if_neg q] at h
    refine ⟨⟨fun z => q (Or.inl z), fun z => q (Or.inr (Or.inl z)), fun z => q (Or.inr (Or.inr (Or.inl z))), Nat.not_lt.mp fun z => q (Or.inr (Or.inr (Or.inr (Or.inl z)))), Nat.not_lt.mp fun z => q (Or.inr (Or.inr (Or.inr (Or.inr z))))⟩, h⟩
theorem tb_out {x : Int32} {N : Nat} (hN : N < 1000) (h : ∀ i : Nat, i ≤ N → ¬ x = nI i) : x.toInt < 0 ∨ (N : Int) < x.toInt := by
  by_cases h0 : x.toInt < 0
  · exact Or.inl h0
  · by_cases h1 : (N : Int) < x.toInt
    · exact Or.inr h1
    · exfalso
      refine h x.toInt.toNat (by omega) ?_
      apply Int32.toInt_inj.mp
      rw [nI_toInt (by omega)]
      omega
theorem nei {x y : Int32} (h : ¬ x = y) : ¬ x.toInt = y.toInt := fun q => h (Int32.toInt_inj.mp q)
theorem tw_native : Cond.native ⟨"java/lang/System", "arraycopy", "(Ljava/lang/Object;ILjava/lang/Object;II)V"⟩ ∈ tbg := List.mem_filter.mpr ⟨tw_456, rfl⟩
theorem lk_out2 {k0 k1 o0 o1 d : Int} {x : Int32} (h0 : ¬ x.toInt = k0) (h1 : ¬ x.toInt = k1) : Op.lookupswitch.offset [(k0, o0), (k1, o1)] d x.toInt = d := by
  simp [Op.lookupswitch.offset, Ne.symm h0, Ne.symm h1, h0, h1]
theorem lk_out3 {k0 k1 k2 o0 o1 o2 d : Int} {x : Int32} (h0 : ¬ x.toInt = k0) (h1 : ¬ x.toInt = k1) (h2 : ¬ x.toInt = k2) : Op.lookupswitch.offset [(k0, o0), (k1, o1), (k2, o2)] d x.toInt = d := by
  simp [Op.lookupswitch.offset, Ne.symm h0, Ne.symm h1, Ne.symm h2, h0, h1, h2]
end
section
abbrev W_fs (cI cS : ClassId) (a_f a_f_kind a_f_wet a_s a_s_row : Nat) (f_kind : Nat → Int32) (f_wet : Nat → Int32) (f_wide : Int32) (f_rows : Int32) (f_cells : Int32) (f_sun : Int32) (f_all : Int32) (f_firstColumn : Int32) (f_lastColumn : Int32) (s_row : Nat → Int32) (s_lane : Int32) (s_length : Int32) : va_W := [(a_f, .inr (0, [.ref a_f_kind, .ref a_f_wet, .int f_wide, .int f_rows, .int f_cells, .int f_sun, .int f_all, .int f_firstColumn, .int f_lastColumn])), (a_f_kind, .inl (cI, 12, .inl f_kind)), (a_f_wet, .inl (cI, 12, .inl f_wet)), (a_s, .inr (2, [.ref a_s_row, .int s_lane, .int s_length])), (a_s_row, .inl (cI, 60, .inl s_row))]
abbrev W_s (cI cS : ClassId) (a_s a_s_row : Nat) (s_row : Nat → Int32) (s_lane : Int32) (s_length : Int32) : va_W := [(a_s, .inr (2, [.ref a_s_row, .int s_lane, .int s_length])), (a_s_row, .inl (cI, 60, .inl s_row))]
abbrev W_f (cI cS : ClassId) (a_f a_f_kind a_f_wet : Nat) (f_kind : Nat → Int32) (f_wet : Nat → Int32) (f_wide : Int32) (f_rows : Int32) (f_cells : Int32) (f_sun : Int32) (f_all : Int32) (f_firstColumn : Int32) (f_lastColumn : Int32) : va_W := [(a_f, .inr (0, [.ref a_f_kind, .ref a_f_wet, .int f_wide, .int f_rows, .int f_cells, .int f_sun, .int f_all, .int f_firstColumn, .int f_lastColumn])), (a_f_kind, .inl (cI, 12, .inl f_kind)), (a_f_wet, .inl (cI, 12, .inl f_wet))]
abbrev W_0 (cI cS : ClassId) : va_W := []
abbrev W_fo (cI cS : ClassId) (a_f a_f_kind a_f_wet a_o a_o_kind a_o_wet : Nat) (f_kind : Nat → Int32) (f_wet : Nat → Int32) (f_wide : Int32) (f_rows : Int32) (f_cells : Int32) (f_sun : Int32) (f_all : Int32) (f_firstColumn : Int32) (f_lastColumn : Int32) (o_kind : Nat → Int32) (o_wet : Nat → Int32) (o_wide : Int32) (o_rows : Int32) (o_cells : Int32) (o_sun : Int32) (o_all : Int32) (o_firstColumn : Int32) (o_lastColumn : Int32) : va_W := [(a_f, .inr (0, [.ref a_f_kind, .ref a_f_wet, .int f_wide, .int f_rows, .int f_cells, .int f_sun, .int f_all, .int f_firstColumn, .int f_lastColumn])), (a_f_kind, .inl (cI, 12, .inl f_kind)), (a_f_wet, .inl (cI, 12, .inl f_wet)), (a_o, .inr (0, [.ref a_o_kind, .ref a_o_wet, .int o_wide, .int o_rows, .int o_cells, .int o_sun, .int o_all, .int o_firstColumn, .int o_lastColumn])), (a_o_kind, .inl (cI, 12, .inl o_kind)), (a_o_wet, .inl (cI, 12, .inl o_wet))]
abbrev W_r (cI cS : ClassId) (a_r a_r_cells a_r_hours a_r_cracked : Nat) (r_cells : Nat → Int32) (r_hours : Nat → Int32) (r_cracked : Nat → Int32) (r_count : Int32) : va_W := [(a_r, .inr (1, [.ref a_r_cells, .ref a_r_hours, .ref a_r_cracked, .int r_count])), (a_r_cells, .inl (cI, 8, .inl r_cells)), (a_r_hours, .inl (cI, 8, .inl r_hours)), (a_r_cracked, .inl (cI, 8, .inl r_cracked))]
abbrev W_rf (cI cS : ClassId) (a_r a_r_cells a_r_hours a_r_cracked a_f a_f_kind a_f_wet : Nat) (r_cells : Nat → Int32) (r_hours : Nat → Int32) (r_cracked : Nat → Int32) (r_count : Int32) (f_kind : Nat → Int32) (f_wet : Nat → Int32) (f_wide : Int32) (f_rows : Int32) (f_cells : Int32) (f_sun : Int32) (f_all : Int32) (f_firstColumn : Int32) (f_lastColumn : Int32) : va_W := [(a_r, .inr (1, [.ref a_r_cells, .ref a_r_hours, .ref a_r_cracked, .int r_count])), (a_r_cells, .inl (cI, 8, .inl r_cells)), (a_r_hours, .inl (cI, 8, .inl r_hours)), (a_r_cracked, .inl (cI, 8, .inl r_cracked)), (a_f, .inr (0, [.ref a_f_kind, .ref a_f_wet, .int f_wide, .int f_rows, .int f_cells, .int f_sun, .int f_all, .int f_firstColumn, .int f_lastColumn])), (a_f_kind, .inl (cI, 12, .inl f_kind)), (a_f_wet, .inl (cI, 12, .inl f_wet))]
abbrev W_tgfs (cI cS : ClassId) (a_t a_g a_g_kind a_g_wet a_f a_f_kind a_f_wet a_s a_s_row : Nat) (t_hours : Int32) (t_opened : Int32) (t_firstWrong : Int32) (g_kind : Nat → Int32) (g_wet : Nat → Int32) (g_wide : Int32) (g_rows : Int32) (g_cells : Int32) (g_sun : Int32) (g_all : Int32) (g_firstColumn : Int32) (g_lastColumn : Int32) (f_kind : Nat → Int32) (f_wet : Nat → Int32) (f_wide : Int32) (f_rows : Int32) (f_cells : Int32) (f_sun : Int32) (f_all : Int32) (f_firstColumn : Int32) (f_lastColumn : Int32) (s_row : Nat → Int32) (s_lane : Int32) (s_length : Int32) : va_W := [(a_t, .inr (3, [.ref a_g, .int t_hours, .int t_opened, .int t_firstWrong])), (a_g, .inr (0, [.ref a_g_kind, .ref a_g_wet, .int g_wide, .int g_rows, .int g_cells, .int g_sun, .int g_all, .int g_firstColumn, .int g_lastColumn])), (a_g_kind, .inl (cI, 12, .inl g_kind)), (a_g_wet, .inl (cI, 12, .inl g_wet)), (a_f, .inr (0, [.ref a_f_kind, .ref a_f_wet, .int f_wide, .int f_rows, .int f_cells, .int f_sun, .int f_all, .int f_firstColumn, .int f_lastColumn])), (a_f_kind, .inl (cI, 12, .inl f_kind)), (a_f_wet, .inl (cI, 12, .inl f_wet)), (a_s, .inr (2, [.ref a_s_row, .int s_lane, .int s_length])), (a_s_row, .inl (cI, 60, .inl s_row))]
abbrev W_tg (cI cS : ClassId) (a_t a_g a_g_kind a_g_wet : Nat) (t_hours : Int32) (t_opened : Int32) (t_firstWrong : Int32) (g_kind : Nat → Int32) (g_wet : Nat → Int32) (g_wide : Int32) (g_rows : Int32) (g_cells : Int32) (g_sun : Int32) (g_all : Int32) (g_firstColumn : Int32) (g_lastColumn : Int32) : va_W := [(a_t, .inr (3, [.ref a_g, .int t_hours, .int t_opened, .int t_firstWrong])), (a_g, .inr (0, [.ref a_g_kind, .ref a_g_wet, .int g_wide, .int g_rows, .int g_cells, .int g_sun, .int g_all, .int g_firstColumn, .int g_lastColumn])), (a_g_kind, .inl (cI, 12, .inl g_kind)), (a_g_wet, .inl (cI, 12, .inl g_wet))]
abbrev W_D (cI cS : ClassId) (a_d a_f a_t a_r a_z a_f_kind a_f_wet a_g a_g_kind a_g_wet a_r_cells a_r_hours a_r_cracked a_s0 a_s0_row a_s1 a_s1_row a_s2 a_s2_row a_s3 a_s3_row : Nat) (d_hour : Int32) (d_traced : Int32) (d_latestFault : Int32) (f_kind : Nat → Int32) (f_wet : Nat → Int32) (f_wide : Int32) (f_rows : Int32) (f_cells : Int32) (f_sun : Int32) (f_all : Int32) (f_firstColumn : Int32) (f_lastColumn : Int32) (t_hours : Int32) (t_opened : Int32) (t_firstWrong : Int32) (g_kind : Nat → Int32) (g_wet : Nat → Int32) (g_wide : Int32) (g_rows : Int32) (g_cells : Int32) (g_sun : Int32) (g_all : Int32) (g_firstColumn : Int32) (g_lastColumn : Int32) (r_cells : Nat → Int32) (r_hours : Nat → Int32) (r_cracked : Nat → Int32) (r_count : Int32) (S_row : Nat → Nat → Int32) (S_lane : Nat → Int32) (S_length : Nat → Int32) : va_W := [(a_d, .inr (4, [.ref a_f, .ref a_t, .ref a_r, .ref a_z, .int d_hour, .int d_traced, .int d_latestFault])), (a_f, .inr (0, [.ref a_f_kind, .ref a_f_wet, .int f_wide, .int f_rows, .int f_cells, .int f_sun, .int f_all, .int f_firstColumn, .int f_lastColumn])), (a_f_kind, .inl (cI, 12, .inl f_kind)), (a_f_wet, .inl (cI, 12, .inl f_wet)), (a_t, .inr (3, [.ref a_g, .int t_hours, .int t_opened, .int t_firstWrong])), (a_g, .inr (0, [.ref a_g_kind, .ref a_g_wet, .int g_wide, .int g_rows, .int g_cells, .int g_sun, .int g_all, .int g_firstColumn, .int g_lastColumn])), (a_g_kind, .inl (cI, 12, .inl g_kind)), (a_g_wet, .inl (cI, 12, .inl g_wet)), (a_r, .inr (1, [.ref a_r_cells, .ref a_r_hours, .ref a_r_cracked, .int r_count])), (a_r_cells, .inl (cI, 8, .inl r_cells)), (a_r_hours, .inl (cI, 8, .inl r_hours)), (a_r_cracked, .inl (cI, 8, .inl r_cracked)), (a_z, .inl (cS, 4, .inr (.inr (.inr (.inr (va_up (va_up (va_up (va_up (fun _ => none) 0 (some a_s0)) 1 (some a_s1)) 2 (some a_s2)) 3 (some a_s3))))))), (a_s0, .inr (2, [.ref a_s0_row, .int (S_lane 0), .int (S_length 0)])), (a_s0_row, .inl (cI, 60, .inl (S_row 0))), (a_s1, .inr (2, [.ref a_s1_row, .int (S_lane 1), .int (S_length 1)])), (a_s1_row, .inl (cI, 60, .inl (S_row 1))), (a_s2, .inr (2, [.ref a_s2_row, .int (S_lane 2), .int (S_length 2)])), (a_s2_row, .inl (cI, 60, .inl (S_row 2))), (a_s3, .inr (2, [.ref a_s3_row, .int (S_lane 3), .int (S_length 3)])), (a_s3_row, .inl (cI, 60, .inl (S_row 3)))]
abbrev W_d (cI cS : ClassId) (a_d a_f a_t a_r a_z : Nat) (d_hour : Int32) (d_traced : Int32) (d_latestFault : Int32) : va_W := [(a_d, .inr (4, [.ref a_f, .ref a_t, .ref a_r, .ref a_z, .int d_hour, .int d_traced, .int d_latestFault]))]
abbrev W_dfs (cI cS : ClassId) (a_d a_f a_t a_r a_z a_f_kind a_f_wet a_s a_s_row : Nat) (d_hour : Int32) (d_traced : Int32) (d_latestFault : Int32) (f_kind : Nat → Int32) (f_wet : Nat → Int32) (f_wide : Int32) (f_rows : Int32) (f_cells : Int32) (f_sun : Int32) (f_all : Int32) (f_firstColumn : Int32) (f_lastColumn : Int32) (s_row : Nat → Int32) (s_lane : Int32) (s_length : Int32) : va_W := [(a_d, .inr (4, [.ref a_f, .ref a_t, .ref a_r, .ref a_z, .int d_hour, .int d_traced, .int d_latestFault])), (a_f, .inr (0, [.ref a_f_kind, .ref a_f_wet, .int f_wide, .int f_rows, .int f_cells, .int f_sun, .int f_all, .int f_firstColumn, .int f_lastColumn])), (a_f_kind, .inl (cI, 12, .inl f_kind)), (a_f_wet, .inl (cI, 12, .inl f_wet)), (a_s, .inr (2, [.ref a_s_row, .int s_lane, .int s_length])), (a_s_row, .inl (cI, 60, .inl s_row))]
abbrev W_df (cI cS : ClassId) (a_d a_f a_t a_r a_z a_f_kind a_f_wet : Nat) (d_hour : Int32) (d_traced : Int32) (d_latestFault : Int32) (f_kind : Nat → Int32) (f_wet : Nat → Int32) (f_wide : Int32) (f_rows : Int32) (f_cells : Int32) (f_sun : Int32) (f_all : Int32) (f_firstColumn : Int32) (f_lastColumn : Int32) : va_W := [(a_d, .inr (4, [.ref a_f, .ref a_t, .ref a_r, .ref a_z, .int d_hour, .int d_traced, .int d_latestFault])), (a_f, .inr (0, [.ref a_f_kind, .ref a_f_wet, .int f_wide, .int f_rows, .int f_cells, .int f_sun, .int f_all, .int f_firstColumn, .int f_lastColumn])), (a_f_kind, .inl (cI, 12, .inl f_kind)), (a_f_wet, .inl (cI, 12, .inl f_wet))]
abbrev W_m (cI cS : ClassId) (a_m a_m_sorts a_m_sheetLong a_m_cells a_m_kind a_m_wet a_m_readKind a_m_readWet a_m_keptWet a_m_readCells a_m_readHours a_m_readCracked : Nat) (m_fault : Int32) (m_trace : Int32) (m_sorts : Nat → Int32) (m_sheetLong : Nat → Int32) (m_cells : Nat → Int32) (m_sun : Int32) (m_wide : Int32) (m_deep : Int32) (m_hour : Int32) (m_kind : Nat → Int32) (m_wet : Nat → Int32) (m_at : Int32) (m_readSun : Int32) (m_readWide : Int32) (m_readDeep : Int32) (m_readKind : Nat → Int32) (m_readWet : Nat → Int32) (m_keptWet : Nat → Int32) (m_keptSun : Int32) (m_openFirst : Int32) (m_planHours : Int32) (m_readings : Int32) (m_readCells : Nat → Int32) (m_readHours : Nat → Int32) (m_readCracked : Nat → Int32) : va_W := [(a_m, .inr (5, [.int m_fault, .int m_trace, .ref a_m_sorts, .ref a_m_sheetLong, .ref a_m_cells, .int m_sun, .int m_wide, .int m_deep, .int m_hour, .ref a_m_kind, .ref a_m_wet, .int m_at, .int m_readSun, .int m_readWide, .int m_readDeep, .ref a_m_readKind, .ref a_m_readWet, .ref a_m_keptWet, .int m_keptSun, .int m_openFirst, .int m_planHours, .int m_readings, .ref a_m_readCells, .ref a_m_readHours, .ref a_m_readCracked])), (a_m_sorts, .inl (cI, 4, .inl m_sorts)), (a_m_sheetLong, .inl (cI, 4, .inl m_sheetLong)), (a_m_cells, .inl (cI, 240, .inl m_cells)), (a_m_kind, .inl (cI, 12, .inl m_kind)), (a_m_wet, .inl (cI, 12, .inl m_wet)), (a_m_readKind, .inl (cI, 12, .inl m_readKind)), (a_m_readWet, .inl (cI, 12, .inl m_readWet)), (a_m_keptWet, .inl (cI, 12, .inl m_keptWet)), (a_m_readCells, .inl (cI, 8, .inl m_readCells)), (a_m_readHours, .inl (cI, 8, .inl m_readHours)), (a_m_readCracked, .inl (cI, 8, .inl m_readCracked))]
end
section
-- X2_hasPlace
def fX2_hasPlace (n : Nat) (s_length : Int32) (p1 : Int32) : Option (Int32) := if p1 < 0 then some ((0 : Int32)) else if s_length ≤ p1 then some ((0 : Int32)) else some ((1 : Int32))
theorem mdX2_hasPlace : yX2_hasPlace.cls = RX2 ∧ yX2_hasPlace.cls ≠ "java/lang/invoke/MethodHandle" ∧ yX2_hasPlace.cls ≠ "java/lang/invoke/VarHandle" ∧ (parseMethodDescriptor yX2_hasPlace.desc).map (fun d => d.parameters.length) = some 1 := by decide +kernel
set_option maxHeartbeats 4000000 in
set_option maxRecDepth 100000 in
theorem ctX2_hasPlace (l : Launch) (D : va_G) (cI cS : ClassId) (a_s a_s_row : Nat) (s_row : Nat → Int32) (s_lane : Int32) (s_length : Int32) (p1 : Int32) (n : Nat) (r : Int32) (hf : fX2_hasPlace n s_length p1 = some (r)) : Ct l D (tysA cI cS) yX2_hasPlace cX2_hasPlace 2 (some .boolean) (Rm 0) [.ref a_s, .int p1] (W_s cI cS a_s a_s_row s_row s_lane s_length) (some (.int r)) (W_s cI cS a_s a_s_row s_row s_lane s_length) := by
  refine Ct_of (by decide) (Nat.le_of_ble_eq_true rfl) ?_
  intro p e s m args below meth c A ls Cc hK hA hP hD hS hl
  have hl : lv_has ls 2 [(0, .ref a_s), (1, .int p1)] := hl
  obtain ⟨hx, hb, hr, hml, hown, hts, hlk, hnw⟩ := id Cc
  unfold fX2_hasPlace at hf
  refine lv_iload_n hx hb dX2_hasPlace_0 rfl (lv_at hl 1 rfl) ?_
  refine lv_if_lt (tgt := 16) hx hb dX2_hasPlace_1 (by decide) (fun hc1 => ?_) (fun hc1 => ?_)
  · replace hf := (if_pos hc1).symm.trans hf
    refine lv_iconst (v := (0 : Int32)) hx hb dX2_hasPlace_16 (by decide) ?_
    cases hf
    exact rt_z Cc (by decide) hK hP hD hS dX2_hasPlace_17
  · replace hf := (if_neg hc1).symm.trans hf
    refine lv_iload_n hx hb dX2_hasPlace_4 rfl (lv_at hl 1 rfl) ?_
    refine lv_aload_n hx hb dX2_hasPlace_5 rfl (lv_at hl 0 rfl) ?_
    refine va_get (D := D) (ci := 2) (v := .int s_length) (C := RX2) (T := TX2) (N := 3) hx hb hts inX2 hown hK hP 0 rfl rfl 2 (by decide) (hts _ tw_115) (fun _ h9 => h9) rfl dX2_hasPlace_6 ?_
    refine lv_icmp_ge (tgt := 16) hx hb dX2_hasPlace_9 (by decide) (fun hc2 => ?_) (fun hc2 => ?_)
    · replace hf := (if_pos hc2).symm.trans hf
      refine lv_iconst (v := (0 : Int32)) hx hb dX2_hasPlace_16 (by decide) ?_
      cases hf
      exact rt_z Cc (by decide) hK hP hD hS dX2_hasPlace_17
    · replace hf := (if_neg hc2).symm.trans hf
      refine lv_iconst (v := (1 : Int32)) hx hb dX2_hasPlace_12 (by decide) ?_
      refine lv_goto (tgt := 17) hx hb dX2_hasPlace_13 (by decide) ?_
      cases hf
      exact rt_z Cc (by decide) hK hP hD hS dX2_hasPlace_17
-- X2_codeAt
def fX2_codeAt (n : Nat) (s_row : Nat → Int32) (s_length : Int32) (p1 : Int32) : Option (Int32) := (fX2_hasPlace n s_length p1).bind fun q2_1 => if q2_1 = 0 then some ((0 : Int32)) else gd p1 60 (some ((s_row p1.toNatClampNeg)))
theorem mdX2_codeAt : yX2_codeAt.cls = RX2 ∧ yX2_codeAt.cls ≠ "java/lang/invoke/MethodHandle" ∧ yX2_codeAt.cls ≠ "java/lang/invoke/VarHandle" ∧ (parseMethodDescriptor yX2_codeAt.desc).map (fun d => d.parameters.length) = some 1 := by decide +kernel
set_option maxHeartbeats 4000000 in
set_option maxRecDepth 100000 in
theorem ctX2_codeAt (l : Launch) (D : va_G) (cI cS : ClassId) (a_s a_s_row : Nat) (s_row : Nat → Int32) (s_lane : Int32) (s_length : Int32) (p1 : Int32) (n : Nat) (r : Int32) (hf : fX2_codeAt n s_row s_length p1 = some (r)) : Ct l D (tysA cI cS) yX2_codeAt cX2_codeAt 2 (some .int) (Rm 1) [.ref a_s, .int p1] (W_s cI cS a_s a_s_row s_row s_lane s_length) (some (.int r)) (W_s cI cS a_s a_s_row s_row s_lane s_length) := by
  refine Ct_of (by decide) (Nat.le_of_ble_eq_true rfl) ?_
  intro p e s m args below meth c A ls Cc hK hA hP hD hS hl
  have hl : lv_has ls 2 [(0, .ref a_s), (1, .int p1)] := hl
  obtain ⟨hx, hb, hr, hml, hown, hts, hlk, hnw⟩ := id Cc
  unfold fX2_codeAt at hf
  refine lv_aload_n hx hb dX2_codeAt_0 rfl (lv_at hl 0 rfl) ?_
  refine lv_iload_n hx hb dX2_codeAt_1 rfl (lv_at hl 1 rfl) ?_
  obtain ⟨q2_1, hq1, hf⟩ := Option.bind_eq_some_iff.mp hf
  refine cV (ws' := (W_s cI cS a_s a_s_row s_row s_lane s_length)) (rest := []) (st1 := [.int q2_1]) Cc hK hA hP hD hS hl.1 (ctX2_hasPlace l D cI cS a_s a_s_row s_row s_lane s_length p1 n q2_1 hq1) ⟨tw_187, tw_184, tw_185, tw_186, tw_5⟩ mdX2_hasPlace ⟨rfl, rfl, Nat.le_of_ble_eq_true rfl, Nat.le_of_ble_eq_true rfl⟩ rfl dX2_codeAt_2 rfl (Nat.le_of_ble_eq_true rfl) ⟨Nat.zero_le _, Nat.zero_le _⟩ rfl rfl rfl [0, 1] [] [0, 1] rfl rfl (by decide) rfl (fun H locs hP hD hS => ?_)
  refine lv_if_eq (tgt := 17) hx hb dX2_codeAt_5 (by decide) (fun hc2 => ?_) (fun hc2 => ?_)
  · replace hf := (if_pos hc2).symm.trans hf
    refine lv_iconst (v := (0 : Int32)) hx hb dX2_codeAt_17 (by decide) ?_
    cases hf
    exact rt_i Cc hK hP hD hS dX2_codeAt_18
  · replace hf := (if_neg hc2).symm.trans hf
    refine lv_aload_n hx hb dX2_codeAt_8 rfl (lv_at hl 0 rfl) ?_
    refine va_get (D := D) (ci := 2) (v := .ref a_s_row) (C := RX2) (T := TX2) (N := 3) hx hb hts inX2 hown hK hP 0 rfl rfl 0 (by decide) (hts _ tw_111) (fun _ h9 => h9) rfl dX2_codeAt_9 ?_
    refine lv_iload_n hx hb dX2_codeAt_12 rfl (lv_at hl 1 rfl) ?_
    obtain ⟨hin, hf⟩ := gd_some hf
    refine va_iald hx hb hK hP 1 0 rfl rfl hin dX2_codeAt_13 ?_
    refine lv_goto (tgt := 18) hx hb dX2_codeAt_14 (by decide) ?_
    cases hf
    exact rt_i Cc hK hP hD hS dX2_codeAt_18
-- X4_digitAt
def fX4_digitAt (n : Nat) (s_row : Nat → Int32) (s_length : Int32) (p1 : Int32) : Option (Int32) := (fX2_codeAt n s_row s_length p1).bind fun q2_1 => some ((q2_1 - (48 : Int32)))
theorem mdX4_digitAt : yX4_digitAt.cls ≠ "java/lang/invoke/MethodHandle" ∧ yX4_digitAt.cls ≠ "java/lang/invoke/VarHandle" ∧ (parseMethodDescriptor yX4_digitAt.desc).map (fun d => d.parameters.length) = some 2 := by decide +kernel
set_option maxHeartbeats 4000000 in
set_option maxRecDepth 100000 in
theorem ctX4_digitAt (l : Launch) (D : va_G) (cI cS : ClassId) (a_s a_s_row : Nat) (s_row : Nat → Int32) (s_lane : Int32) (s_length : Int32) (p1 : Int32) (n : Nat) (r : Int32) (hf : fX4_digitAt n s_row s_length p1 = some (r)) : Ct l D (tysA cI cS) yX4_digitAt cX4_digitAt 2 (some .int) (Rm 2) [.ref a_s, .int p1] (W_s cI cS a_s a_s_row s_row s_lane s_length) (some (.int r)) (W_s cI cS a_s a_s_row s_row s_lane s_length) := by
  refine Ct_of (by decide) (Nat.le_of_ble_eq_true rfl) ?_
  intro p e s m args below meth c A ls Cc hK hA hP hD hS hl
  have hl : lv_has ls 2 [(0, .ref a_s), (1, .int p1)] := hl
  obtain ⟨hx, hb, hr, hml, hown, hts, hlk, hnw⟩ := id Cc
  unfold fX4_digitAt at hf
  refine lv_aload_n hx hb dX4_digitAt_0 rfl (lv_at hl 0 rfl) ?_
  refine lv_iload_n hx hb dX4_digitAt_1 rfl (lv_at hl 1 rfl) ?_
  obtain ⟨q2_1, hq1, hf⟩ := Option.bind_eq_some_iff.mp hf
  refine cV (ws' := (W_s cI cS a_s a_s_row s_row s_lane s_length)) (rest := []) (st1 := [.int q2_1]) Cc hK hA hP hD hS hl.1 (ctX2_codeAt l D cI cS a_s a_s_row s_row s_lane s_length p1 n q2_1 hq1) ⟨tw_183, tw_180, tw_181, tw_182, tw_5⟩ mdX2_codeAt ⟨rfl, rfl, Nat.le_of_ble_eq_true rfl, Nat.le_of_ble_eq_true rfl⟩ rfl dX4_digitAt_2 rfl (Nat.le_of_ble_eq_true rfl) ⟨Nat.zero_le _, Nat.zero_le _⟩ rfl rfl rfl [0, 1] [] [0, 1] rfl rfl (by decide) rfl (fun H locs hP hD hS => ?_)
  refine lv_bipush (v := (48 : Int32)) hx hb dX4_digitAt_5 (by decide) ?_
  refine lv_isub hx hb dX4_digitAt_7 ?_
  cases hf
  exact rt_i Cc hK hP hD hS dX4_digitAt_8
-- X4_kindByLetter
def fX4_kindByLetter (n : Nat)  (p0 : Int32) : Option (Int32) := if p0 = 99 then some ((2 : Int32)) else if p0 = 109 then some ((0 : Int32)) else if p0 = 115 then some ((1 : Int32)) else some ((-9 : Int32))
theorem mdX4_kindByLetter : yX4_kindByLetter.cls ≠ "java/lang/invoke/MethodHandle" ∧ yX4_kindByLetter.cls ≠ "java/lang/invoke/VarHandle" ∧ (parseMethodDescriptor yX4_kindByLetter.desc).map (fun d => d.parameters.length) = some 1 := by decide +kernel
set_option maxHeartbeats 4000000 in
set_option maxRecDepth 100000 in
theorem ctX4_kindByLetter (l : Launch) (D : va_G) (cI cS : ClassId)  (p0 : Int32) (n : Nat) (r : Int32) (hf : fX4_kindByLetter n  p0 = some (r)) : Ct l D (tysA cI cS) yX4_kindByLetter cX4_kindByLetter 1 (some .int) (Rm 0) [.int p0] (W_0 cI cS) (some (.int r)) (W_0 cI cS) := by
  refine Ct_of (by decide) (Nat.le_of_ble_eq_true rfl) ?_
  intro p e s m args below meth c A ls Cc hK hA hP hD hS hl
  have hl : lv_has ls 1 [(0, .int p0)] := hl
  obtain ⟨hx, hb, hr, hml, hown, hts, hlk, hnw⟩ := id Cc
  unfold fX4_kindByLetter at hf
  refine lv_iload_n hx hb dX4_kindByLetter_0 rfl (lv_at hl 0 rfl) ?_
  by_cases hs1_0 : p0 = 99
  · replace hf := (if_pos hs1_0).symm.trans hf
    refine lv_lookup (tgt := 40) (off := 39) hx hb dX4_kindByLetter_1 (by decide) (by rw [hs1_0]; decide) (by decide) ?_
    refine lv_iconst (v := (2 : Int32)) hx hb dX4_kindByLetter_40 (by decide) ?_
    cases hf
    exact rt_i Cc hK hP hD hS dX4_kindByLetter_41
  · replace hf := (if_neg hs1_0).symm.trans hf
    by_cases hs1_1 : p0 = 109
    · replace hf := (if_pos hs1_1).symm.trans hf
      refine lv_lookup (tgt := 36) (off := 35) hx hb dX4_kindByLetter_1 (by decide) (by rw [hs1_1]; decide) (by decide) ?_
      refine lv_iconst (v := (0 : Int32)) hx hb dX4_kindByLetter_36 (by decide) ?_
      cases hf
      exact rt_i Cc hK hP hD hS dX4_kindByLetter_37
    · replace hf := (if_neg hs1_1).symm.trans hf
      by_cases hs1_2 : p0 = 115
      · replace hf := (if_pos hs1_2).symm.trans hf
        refine lv_lookup (tgt := 38) (off := 37) hx hb dX4_kindByLetter_1 (by decide) (by rw [hs1_2]; decide) (by decide) ?_
        refine lv_iconst (v := (1 : Int32)) hx hb dX4_kindByLetter_38 (by decide) ?_
        cases hf
        exact rt_i Cc hK hP hD hS dX4_kindByLetter_39
      · replace hf := (if_neg hs1_2).symm.trans hf
        refine lv_lookup (tgt := 42) (off := 41) hx hb dX4_kindByLetter_1 (by decide) (lk_out3 (k0 := 99) (k1 := 109) (k2 := 115) (nei hs1_0) (nei hs1_1) (nei hs1_2)) (by decide) ?_
        refine lv_bipush (v := (-9 : Int32)) hx hb dX4_kindByLetter_42 (by decide) ?_
        cases hf
        exact rt_i Cc hK hP hD hS dX4_kindByLetter_44
-- J6_lowestOneBit_0f7a4
def fJ6_lowestOneBit_0f7a4 (n : Nat)  (p0 : Int32) : Option (Int32) := some ((p0 &&& (-p0)))
theorem mdJ6_lowestOneBit_0f7a4 : yJ6_lowestOneBit_0f7a4.cls ≠ "java/lang/invoke/MethodHandle" ∧ yJ6_lowestOneBit_0f7a4.cls ≠ "java/lang/invoke/VarHandle" ∧ (parseMethodDescriptor yJ6_lowestOneBit_0f7a4.desc).map (fun d => d.parameters.length) = some 1 := by decide +kernel
set_option maxHeartbeats 4000000 in
set_option maxRecDepth 100000 in
theorem ctJ6_lowestOneBit_0f7a4 (l : Launch) (D : va_G) (cI cS : ClassId)  (p0 : Int32) (n : Nat) (r : Int32) (hf : fJ6_lowestOneBit_0f7a4 n  p0 = some (r)) : Ct l D (tysA cI cS) yJ6_lowestOneBit_0f7a4 cJ6_lowestOneBit_0f7a4 1 (some .int) (Rm 0) [.int p0] (W_0 cI cS) (some (.int r)) (W_0 cI cS) := by
  refine Ct_of (by decide) (Nat.le_of_ble_eq_true rfl) ?_
  intro p e s m args below meth c A ls Cc hK hA hP hD hS hl
  have hl : lv_has ls 1 [(0, .int p0)] := hl
  obtain ⟨hx, hb, hr, hml, hown, hts, hlk, hnw⟩ := id Cc
  unfold fJ6_lowestOneBit_0f7a4 at hf
  refine lv_iload_n hx hb dJ6_lowestOneBit_0f7a4_0 rfl (lv_at hl 0 rfl) ?_
  refine lv_iload_n hx hb dJ6_lowestOneBit_0f7a4_1 rfl (lv_at hl 0 rfl) ?_
  refine lv_ineg hx hb dJ6_lowestOneBit_0f7a4_2 ?_
  refine lv_iand hx hb dJ6_lowestOneBit_0f7a4_3 ?_
  cases hf
  exact rt_i Cc hK hP hD hS dJ6_lowestOneBit_0f7a4_4
-- J6_bitCount_0f7a4
def fJ6_bitCount_0f7a4 (n : Nat)  (p0 : Int32) : Option (Int32) := some (((((((((p0 - ((((p0).toUInt32 >>> (((1 : Int32)).toUInt32 &&& Int32.toUInt32 31)).toInt32) &&& (1431655765 : Int32))) &&& (858993459 : Int32)) + (((((p0 - ((((p0).toUInt32 >>> (((1 : Int32)).toUInt32 &&& Int32.toUInt32 31)).toInt32) &&& (1431655765 : Int32)))).toUInt32 >>> (((2 : Int32)).toUInt32 &&& Int32.toUInt32 31)).toInt32) &&& (858993459 : Int32))) + ((((((p0 - ((((p0).toUInt32 >>> (((1 : Int32)).toUInt32 &&& Int32.toUInt32 31)).toInt32) &&& (1431655765 : Int32))) &&& (858993459 : Int32)) + (((((p0 - ((((p0).toUInt32 >>> (((1 : Int32)).toUInt32 &&& Int32.toUInt32 31)).toInt32) &&& (1431655765 : Int32)))).toUInt32 >>> (((2 : Int32)).toUInt32 &&& Int32.toUInt32 31)).toInt32) &&& (858993459 : Int32)))).toUInt32 >>> (((4 : Int32)).toUInt32 &&& Int32.toUInt32 31)).toInt32)) &&& (252645135 : Int32)) + ((((((((p0 - ((((p0).toUInt32 >>> (((1 : Int32)).toUInt32 &&& Int32.toUInt32 31)).toInt32) &&& (1431655765 : Int32))) &&& (858993459 : Int32)) + (((((p0 - ((((p0).toUInt32 >>> (((1 : Int32)).toUInt32 &&& Int32.toUInt32 31)).toInt32) &&& (1431655765 : Int32)))).toUInt32 >>> (((2 : Int32)).toUInt32 &&& Int32.toUInt32 31)).toInt32) &&& (858993459 : Int32))) + ((((((p0 - ((((p0).toUInt32 >>> (((1 : Int32)).toUInt32 &&& Int32.toUInt32 31)).toInt32) &&& (1431655765 : Int32))) &&& (858993459 : Int32)) + (((((p0 - ((((p0).toUInt32 >>> (((1 : Int32)).toUInt32 &&& Int32.toUInt32 31)).toInt32) &&& (1431655765 : Int32)))).toUInt32 >>> (((2 : Int32)).toUInt32 &&& Int32.toUInt32 31)).toInt32) &&& (858993459 : Int32)))).toUInt32 >>> (((4 : Int32)).toUInt32 &&& Int32.toUInt32 31)).toInt32)) &&& (252645135 : Int32))).toUInt32 >>> (((8 : Int32)).toUInt32 &&& Int32.toUInt32 31)).toInt32)) + (((((((((p0 - ((((p0).toUInt32 >>> (((1 : Int32)).toUInt32 &&& Int32.toUInt32 31)).toInt32) &&& (1431655765 : Int32))) &&& (858993459 : Int32)) + (((((p0 - ((((p0).toUInt32 >>> (((1 : Int32)).toUInt32 &&& Int32.toUInt32 31)).toInt32) &&& (1431655765 : Int32)))).toUInt32 >>> (((2 : Int32)).toUInt32 &&& Int32.toUInt32 31)).toInt32) &&& (858993459 : Int32))) + ((((((p0 - ((((p0).toUInt32 >>> (((1 : Int32)).toUInt32 &&& Int32.toUInt32 31)).toInt32) &&& (1431655765 : Int32))) &&& (858993459 : Int32)) + (((((p0 - ((((p0).toUInt32 >>> (((1 : Int32)).toUInt32 &&& Int32.toUInt32 31)).toInt32) &&& (1431655765 : Int32)))).toUInt32 >>> (((2 : Int32)).toUInt32 &&& Int32.toUInt32 31)).toInt32) &&& (858993459 : Int32)))).toUInt32 >>> (((4 : Int32)).toUInt32 &&& Int32.toUInt32 31)).toInt32)) &&& (252645135 : Int32)) + ((((((((p0 - ((((p0).toUInt32 >>> (((1 : Int32)).toUInt32 &&& Int32.toUInt32 31)).toInt32) &&& (1431655765 : Int32))) &&& (858993459 : Int32)) + (((((p0 - ((((p0).toUInt32 >>> (((1 : Int32)).toUInt32 &&& Int32.toUInt32 31)).toInt32) &&& (1431655765 : Int32)))).toUInt32 >>> (((2 : Int32)).toUInt32 &&& Int32.toUInt32 31)).toInt32) &&& (858993459 : Int32))) + ((((((p0 - ((((p0).toUInt32 >>> (((1 : Int32)).toUInt32 &&& Int32.toUInt32 31)).toInt32) &&& (1431655765 : Int32))) &&& (858993459 : Int32)) + (((((p0 - ((((p0).toUInt32 >>> (((1 : Int32)).toUInt32 &&& Int32.toUInt32 31)).toInt32) &&& (1431655765 : Int32)))).toUInt32 >>> (((2 : Int32)).toUInt32 &&& Int32.toUInt32 31)).toInt32) &&& (858993459 : Int32)))).toUInt32 >>> (((4 : Int32)).toUInt32 &&& Int32.toUInt32 31)).toInt32)) &&& (252645135 : Int32))).toUInt32 >>> (((8 : Int32)).toUInt32 &&& Int32.toUInt32 31)).toInt32))).toUInt32 >>> (((16 : Int32)).toUInt32 &&& Int32.toUInt32 31)).toInt32)) &&& (63 : Int32)))
theorem mdJ6_bitCount_0f7a4 : yJ6_bitCount_0f7a4.cls ≠ "java/lang/invoke/MethodHandle" ∧ yJ6_bitCount_0f7a4.cls ≠ "java/lang/invoke/VarHandle" ∧ (parseMethodDescriptor yJ6_bitCount_0f7a4.desc).map (fun d => d.parameters.length) = some 1 := by decide +kernel
set_option maxHeartbeats 4000000 in
set_option maxRecDepth 100000 in
theorem ctJ6_bitCount_0f7a4 (l : Launch) (D : va_G) (cI cS : ClassId)  (p0 : Int32) (n : Nat) (r : Int32) (hf : fJ6_bitCount_0f7a4 n  p0 = some (r)) : Ct l D (tysA cI cS) yJ6_bitCount_0f7a4 cJ6_bitCount_0f7a4 1 (some .int) (Rm 0) [.int p0] (W_0 cI cS) (some (.int r)) (W_0 cI cS) := by
  refine Ct_of (by decide) (Nat.le_of_ble_eq_true rfl) ?_
  intro p e s m args below meth c A ls Cc hK hA hP hD hS hl
  have hl : lv_has ls 1 [(0, .int p0)] := hl
  obtain ⟨hx, hb, hr, hml, hown, hts, hlk, hnw⟩ := id Cc
  unfold fJ6_bitCount_0f7a4 at hf
  refine lv_iload_n hx hb dJ6_bitCount_0f7a4_0 rfl (lv_at hl 0 rfl) ?_
  refine lv_iload_n hx hb dJ6_bitCount_0f7a4_1 rfl (lv_at hl 0 rfl) ?_
  refine lv_iconst (v := (1 : Int32)) hx hb dJ6_bitCount_0f7a4_2 (by decide) ?_
  refine lv_iushr (v := ((p0).toUInt32 >>> (((1 : Int32)).toUInt32 &&& Int32.toUInt32 31)).toInt32) hx hb dJ6_bitCount_0f7a4_3 rfl ?_
  refine lv_ldcw hx hb hown (hts _ tw_242) dJ6_bitCount_0f7a4_4 ?_
  refine lv_iand hx hb dJ6_bitCount_0f7a4_7 ?_
  refine lv_isub hx hb dJ6_bitCount_0f7a4_8 ?_
  refine lv_istore_n (lv' := [(0, .int (p0 - ((((p0).toUInt32 >>> (((1 : Int32)).toUInt32 &&& Int32.toUInt32 31)).toInt32) &&& (1431655765 : Int32))))]) hx hb dJ6_bitCount_0f7a4_9 rfl hl (by decide) rfl (fun ls hl => ?_)
  refine lv_iload_n hx hb dJ6_bitCount_0f7a4_10 rfl (lv_at hl 0 rfl) ?_
  refine lv_ldcw hx hb hown (hts _ tw_243) dJ6_bitCount_0f7a4_11 ?_
  refine lv_iand hx hb dJ6_bitCount_0f7a4_14 ?_
  refine lv_iload_n hx hb dJ6_bitCount_0f7a4_15 rfl (lv_at hl 0 rfl) ?_
  refine lv_iconst (v := (2 : Int32)) hx hb dJ6_bitCount_0f7a4_16 (by decide) ?_
  refine lv_iushr (v := (((p0 - ((((p0).toUInt32 >>> (((1 : Int32)).toUInt32 &&& Int32.toUInt32 31)).toInt32) &&& (1431655765 : Int32)))).toUInt32 >>> (((2 : Int32)).toUInt32 &&& Int32.toUInt32 31)).toInt32) hx hb dJ6_bitCount_0f7a4_17 rfl ?_
  refine lv_ldcw hx hb hown (hts _ tw_243) dJ6_bitCount_0f7a4_18 ?_
  refine lv_iand hx hb dJ6_bitCount_0f7a4_21 ?_
  refine lv_iadd hx hb dJ6_bitCount_0f7a4_22 ?_
  refine lv_istore_n (lv' := [(0, .int (((p0 - ((((p0).toUInt32 >>> (((1 : Int32)).toUInt32 &&& Int32.toUInt32 31)).toInt32) &&& (1431655765 : Int32))) &&& (858993459 : Int32)) + (((((p0 - ((((p0).toUInt32 >>> (((1 : Int32)).toUInt32 &&& Int32.toUInt32 31)).toInt32) &&& (1431655765 : Int32)))).toUInt32 >>> (((2 : Int32)).toUInt32 &&& Int32.toUInt32 31)).toInt32) &&& (858993459 : Int32))))]) hx hb dJ6_bitCount_0f7a4_23 rfl hl (by decide) rfl (fun ls hl => ?_)
  refine lv_iload_n hx hb dJ6_bitCount_0f7a4_24 rfl (lv_at hl 0 rfl) ?_
  refine lv_iload_n hx hb dJ6_bitCount_0f7a4_25 rfl (lv_at hl 0 rfl) ?_
  refine lv_iconst (v := (4 : Int32)) hx hb dJ6_bitCount_0f7a4_26 (by decide) ?_
  refine lv_iushr (v := (((((p0 - ((((p0).toUInt32 >>> (((1 : Int32)).toUInt32 &&& Int32.toUInt32 31)).toInt32) &&& (1431655765 : Int32))) &&& (858993459 : Int32)) + (((((p0 - ((((p0).toUInt32 >>> (((1 : Int32)).toUInt32 &&& Int32.toUInt32 31)).toInt32) &&& (1431655765 : Int32)))).toUInt32 >>> (((2 : Int32)).toUInt32 &&& Int32.toUInt32 31)).toInt32) &&& (858993459 : Int32)))).toUInt32 >>> (((4 : Int32)).toUInt32 &&& Int32.toUInt32 31)).toInt32) hx hb dJ6_bitCount_0f7a4_27 rfl ?_
  refine lv_iadd hx hb dJ6_bitCount_0f7a4_28 ?_
  refine lv_ldcw hx hb hown (hts _ tw_244) dJ6_bitCount_0f7a4_29 ?_
  refine lv_iand hx hb dJ6_bitCount_0f7a4_32 ?_
  refine lv_istore_n (lv' := [(0, .int (((((p0 - ((((p0).toUInt32 >>> (((1 : Int32)).toUInt32 &&& Int32.toUInt32 31)).toInt32) &&& (1431655765 : Int32))) &&& (858993459 : Int32)) + (((((p0 - ((((p0).toUInt32 >>> (((1 : Int32)).toUInt32 &&& Int32.toUInt32 31)).toInt32) &&& (1431655765 : Int32)))).toUInt32 >>> (((2 : Int32)).toUInt32 &&& Int32.toUInt32 31)).toInt32) &&& (858993459 : Int32))) + ((((((p0 - ((((p0).toUInt32 >>> (((1 : Int32)).toUInt32 &&& Int32.toUInt32 31)).toInt32) &&& (1431655765 : Int32))) &&& (858993459 : Int32)) + (((((p0 - ((((p0).toUInt32 >>> (((1 : Int32)).toUInt32 &&& Int32.toUInt32 31)).toInt32) &&& (1431655765 : Int32)))).toUInt32 >>> (((2 : Int32)).toUInt32 &&& Int32.toUInt32 31)).toInt32) &&& (858993459 : Int32)))).toUInt32 >>> (((4 : Int32)).toUInt32 &&& Int32.toUInt32 31)).toInt32)) &&& (252645135 : Int32)))]) hx hb dJ6_bitCount_0f7a4_33 rfl hl (by decide) rfl (fun ls hl => ?_)
  refine lv_iload_n hx hb dJ6_bitCount_0f7a4_34 rfl (lv_at hl 0 rfl) ?_
  refine lv_iload_n hx hb dJ6_bitCount_0f7a4_35 rfl (lv_at hl 0 rfl) ?_
  refine lv_bipush (v := (8 : Int32)) hx hb dJ6_bitCount_0f7a4_36 (by decide) ?_
  refine lv_iushr (v := (((((((p0 - ((((p0).toUInt32 >>> (((1 : Int32)).toUInt32 &&& Int32.toUInt32 31)).toInt32) &&& (1431655765 : Int32))) &&& (858993459 : Int32)) + (((((p0 - ((((p0).toUInt32 >>> (((1 : Int32)).toUInt32 &&& Int32.toUInt32 31)).toInt32) &&& (1431655765 : Int32)))).toUInt32 >>> (((2 : Int32)).toUInt32 &&& Int32.toUInt32 31)).toInt32) &&& (858993459 : Int32))) + ((((((p0 - ((((p0).toUInt32 >>> (((1 : Int32)).toUInt32 &&& Int32.toUInt32 31)).toInt32) &&& (1431655765 : Int32))) &&& (858993459 : Int32)) + (((((p0 - ((((p0).toUInt32 >>> (((1 : Int32)).toUInt32 &&& Int32.toUInt32 31)).toInt32) &&& (1431655765 : Int32)))).toUInt32 >>> (((2 : Int32)).toUInt32 &&& Int32.toUInt32 31)).toInt32) &&& (858993459 : Int32)))).toUInt32 >>> (((4 : Int32)).toUInt32 &&& Int32.toUInt32 31)).toInt32)) &&& (252645135 : Int32))).toUInt32 >>> (((8 : Int32)).toUInt32 &&& Int32.toUInt32 31)).toInt32) hx hb dJ6_bitCount_0f7a4_38 rfl ?_
  refine lv_iadd hx hb dJ6_bitCount_0f7a4_39 ?_
  refine lv_istore_n (lv' := [(0, .int ((((((p0 - ((((p0).toUInt32 >>> (((1 : Int32)).toUInt32 &&& Int32.toUInt32 31)).toInt32) &&& (1431655765 : Int32))) &&& (858993459 : Int32)) + (((((p0 - ((((p0).toUInt32 >>> (((1 : Int32)).toUInt32 &&& Int32.toUInt32 31)).toInt32) &&& (1431655765 : Int32)))).toUInt32 >>> (((2 : Int32)).toUInt32 &&& Int32.toUInt32 31)).toInt32) &&& (858993459 : Int32))) + ((((((p0 - ((((p0).toUInt32 >>> (((1 : Int32)).toUInt32 &&& Int32.toUInt32 31)).toInt32) &&& (1431655765 : Int32))) &&& (858993459 : Int32)) + (((((p0 - ((((p0).toUInt32 >>> (((1 : Int32)).toUInt32 &&& Int32.toUInt32 31)).toInt32) &&& (1431655765 : Int32)))).toUInt32 >>> (((2 : Int32)).toUInt32 &&& Int32.toUInt32 31)).toInt32) &&& (858993459 : Int32)))).toUInt32 >>> (((4 : Int32)).toUInt32 &&& Int32.toUInt32 31)).toInt32)) &&& (252645135 : Int32)) + ((((((((p0 - ((((p0).toUInt32 >>> (((1 : Int32)).toUInt32 &&& Int32.toUInt32 31)).toInt32) &&& (1431655765 : Int32))) &&& (858993459 : Int32)) + (((((p0 - ((((p0).toUInt32 >>> (((1 : Int32)).toUInt32 &&& Int32.toUInt32 31)).toInt32) &&& (1431655765 : Int32)))).toUInt32 >>> (((2 : Int32)).toUInt32 &&& Int32.toUInt32 31)).toInt32) &&& (858993459 : Int32))) + ((((((p0 - ((((p0).toUInt32 >>> (((1 : Int32)).toUInt32 &&& Int32.toUInt32 31)).toInt32) &&& (1431655765 : Int32))) &&& (858993459 : Int32)) + (((((p0 - ((((p0).toUInt32 >>> (((1 : Int32)).toUInt32 &&& Int32.toUInt32 31)).toInt32) &&& (1431655765 : Int32)))).toUInt32 >>> (((2 : Int32)).toUInt32 &&& Int32.toUInt32 31)).toInt32) &&& (858993459 : Int32)))).toUInt32 >>> (((4 : Int32)).toUInt32 &&& Int32.toUInt32 31)).toInt32)) &&& (252645135 : Int32))).toUInt32 >>> (((8 : Int32)).toUInt32 &&& Int32.toUInt32 31)).toInt32)))]) hx hb dJ6_bitCount_0f7a4_40 rfl hl (by decide) rfl (fun ls hl => ?_)
  refine lv_iload_n hx hb dJ6_bitCount_0f7a4_41 rfl (lv_at hl 0 rfl) ?_
  refine lv_iload_n hx hb dJ6_bitCount_0f7a4_42 rfl (lv_at hl 0 rfl) ?_
  refine lv_bipush (v := (16 : Int32)) hx hb dJ6_bitCount_0f7a4_43 (by decide) ?_
  refine lv_iushr (v := ((((((((p0 - ((((p0).toUInt32 >>> (((1 : Int32)).toUInt32 &&& Int32.toUInt32 31)).toInt32) &&& (1431655765 : Int32))) &&& (858993459 : Int32)) + (((((p0 - ((((p0).toUInt32 >>> (((1 : Int32)).toUInt32 &&& Int32.toUInt32 31)).toInt32) &&& (1431655765 : Int32)))).toUInt32 >>> (((2 : Int32)).toUInt32 &&& Int32.toUInt32 31)).toInt32) &&& (858993459 : Int32))) + ((((((p0 - ((((p0).toUInt32 >>> (((1 : Int32)).toUInt32 &&& Int32.toUInt32 31)).toInt32) &&& (1431655765 : Int32))) &&& (858993459 : Int32)) + (((((p0 - ((((p0).toUInt32 >>> (((1 : Int32)).toUInt32 &&& Int32.toUInt32 31)).toInt32) &&& (1431655765 : Int32)))).toUInt32 >>> (((2 : Int32)).toUInt32 &&& Int32.toUInt32 31)).toInt32) &&& (858993459 : Int32)))).toUInt32 >>> (((4 : Int32)).toUInt32 &&& Int32.toUInt32 31)).toInt32)) &&& (252645135 : Int32)) + ((((((((p0 - ((((p0).toUInt32 >>> (((1 : Int32)).toUInt32 &&& Int32.toUInt32 31)).toInt32) &&& (1431655765 : Int32))) &&& (858993459 : Int32)) + (((((p0 - ((((p0).toUInt32 >>> (((1 : Int32)).toUInt32 &&& Int32.toUInt32 31)).toInt32) &&& (1431655765 : Int32)))).toUInt32 >>> (((2 : Int32)).toUInt32 &&& Int32.toUInt32 31)).toInt32) &&& (858993459 : Int32))) + ((((((p0 - ((((p0).toUInt32 >>> (((1 : Int32)).toUInt32 &&& Int32.toUInt32 31)).toInt32) &&& (1431655765 : Int32))) &&& (858993459 : Int32)) + (((((p0 - ((((p0).toUInt32 >>> (((1 : Int32)).toUInt32 &&& Int32.toUInt32 31)).toInt32) &&& (1431655765 : Int32)))).toUInt32 >>> (((2 : Int32)).toUInt32 &&& Int32.toUInt32 31)).toInt32) &&& (858993459 : Int32)))).toUInt32 >>> (((4 : Int32)).toUInt32 &&& Int32.toUInt32 31)).toInt32)) &&& (252645135 : Int32))).toUInt32 >>> (((8 : Int32)).toUInt32 &&& Int32.toUInt32 31)).toInt32))).toUInt32 >>> (((16 : Int32)).toUInt32 &&& Int32.toUInt32 31)).toInt32) hx hb dJ6_bitCount_0f7a4_45 rfl ?_
  refine lv_iadd hx hb dJ6_bitCount_0f7a4_46 ?_
  refine lv_istore_n (lv' := [(0, .int (((((((p0 - ((((p0).toUInt32 >>> (((1 : Int32)).toUInt32 &&& Int32.toUInt32 31)).toInt32) &&& (1431655765 : Int32))) &&& (858993459 : Int32)) + (((((p0 - ((((p0).toUInt32 >>> (((1 : Int32)).toUInt32 &&& Int32.toUInt32 31)).toInt32) &&& (1431655765 : Int32)))).toUInt32 >>> (((2 : Int32)).toUInt32 &&& Int32.toUInt32 31)).toInt32) &&& (858993459 : Int32))) + ((((((p0 - ((((p0).toUInt32 >>> (((1 : Int32)).toUInt32 &&& Int32.toUInt32 31)).toInt32) &&& (1431655765 : Int32))) &&& (858993459 : Int32)) + (((((p0 - ((((p0).toUInt32 >>> (((1 : Int32)).toUInt32 &&& Int32.toUInt32 31)).toInt32) &&& (1431655765 : Int32)))).toUInt32 >>> (((2 : Int32)).toUInt32 &&& Int32.toUInt32 31)).toInt32) &&& (858993459 : Int32)))).toUInt32 >>> (((4 : Int32)).toUInt32 &&& Int32.toUInt32 31)).toInt32)) &&& (252645135 : Int32)) + ((((((((p0 - ((((p0).toUInt32 >>> (((1 : Int32)).toUInt32 &&& Int32.toUInt32 31)).toInt32) &&& (1431655765 : Int32))) &&& (858993459 : Int32)) + (((((p0 - ((((p0).toUInt32 >>> (((1 : Int32)).toUInt32 &&& Int32.toUInt32 31)).toInt32) &&& (1431655765 : Int32)))).toUInt32 >>> (((2 : Int32)).toUInt32 &&& Int32.toUInt32 31)).toInt32) &&& (858993459 : Int32))) + ((((((p0 - ((((p0).toUInt32 >>> (((1 : Int32)).toUInt32 &&& Int32.toUInt32 31)).toInt32) &&& (1431655765 : Int32))) &&& (858993459 : Int32)) + (((((p0 - ((((p0).toUInt32 >>> (((1 : Int32)).toUInt32 &&& Int32.toUInt32 31)).toInt32) &&& (1431655765 : Int32)))).toUInt32 >>> (((2 : Int32)).toUInt32 &&& Int32.toUInt32 31)).toInt32) &&& (858993459 : Int32)))).toUInt32 >>> (((4 : Int32)).toUInt32 &&& Int32.toUInt32 31)).toInt32)) &&& (252645135 : Int32))).toUInt32 >>> (((8 : Int32)).toUInt32 &&& Int32.toUInt32 31)).toInt32)) + (((((((((p0 - ((((p0).toUInt32 >>> (((1 : Int32)).toUInt32 &&& Int32.toUInt32 31)).toInt32) &&& (1431655765 : Int32))) &&& (858993459 : Int32)) + (((((p0 - ((((p0).toUInt32 >>> (((1 : Int32)).toUInt32 &&& Int32.toUInt32 31)).toInt32) &&& (1431655765 : Int32)))).toUInt32 >>> (((2 : Int32)).toUInt32 &&& Int32.toUInt32 31)).toInt32) &&& (858993459 : Int32))) + ((((((p0 - ((((p0).toUInt32 >>> (((1 : Int32)).toUInt32 &&& Int32.toUInt32 31)).toInt32) &&& (1431655765 : Int32))) &&& (858993459 : Int32)) + (((((p0 - ((((p0).toUInt32 >>> (((1 : Int32)).toUInt32 &&& Int32.toUInt32 31)).toInt32) &&& (1431655765 : Int32)))).toUInt32 >>> (((2 : Int32)).toUInt32 &&& Int32.toUInt32 31)).toInt32) &&& (858993459 : Int32)))).toUInt32 >>> (((4 : Int32)).toUInt32 &&& Int32.toUInt32 31)).toInt32)) &&& (252645135 : Int32)) + ((((((((p0 - ((((p0).toUInt32 >>> (((1 : Int32)).toUInt32 &&& Int32.toUInt32 31)).toInt32) &&& (1431655765 : Int32))) &&& (858993459 : Int32)) + (((((p0 - ((((p0).toUInt32 >>> (((1 : Int32)).toUInt32 &&& Int32.toUInt32 31)).toInt32) &&& (1431655765 : Int32)))).toUInt32 >>> (((2 : Int32)).toUInt32 &&& Int32.toUInt32 31)).toInt32) &&& (858993459 : Int32))) + ((((((p0 - ((((p0).toUInt32 >>> (((1 : Int32)).toUInt32 &&& Int32.toUInt32 31)).toInt32) &&& (1431655765 : Int32))) &&& (858993459 : Int32)) + (((((p0 - ((((p0).toUInt32 >>> (((1 : Int32)).toUInt32 &&& Int32.toUInt32 31)).toInt32) &&& (1431655765 : Int32)))).toUInt32 >>> (((2 : Int32)).toUInt32 &&& Int32.toUInt32 31)).toInt32) &&& (858993459 : Int32)))).toUInt32 >>> (((4 : Int32)).toUInt32 &&& Int32.toUInt32 31)).toInt32)) &&& (252645135 : Int32))).toUInt32 >>> (((8 : Int32)).toUInt32 &&& Int32.toUInt32 31)).toInt32))).toUInt32 >>> (((16 : Int32)).toUInt32 &&& Int32.toUInt32 31)).toInt32)))]) hx hb dJ6_bitCount_0f7a4_47 rfl hl (by decide) rfl (fun ls hl => ?_)
  refine lv_iload_n hx hb dJ6_bitCount_0f7a4_48 rfl (lv_at hl 0 rfl) ?_
  refine lv_bipush (v := (63 : Int32)) hx hb dJ6_bitCount_0f7a4_49 (by decide) ?_
  refine lv_iand hx hb dJ6_bitCount_0f7a4_51 ?_
  cases hf
  exact rt_i Cc hK hP hD hS dJ6_bitCount_0f7a4_52
-- X2_isNothing
def fX2_isNothing (n : Nat) (s_lane : Int32)  : Option (Int32) := if s_lane = (-1 : Int32) then some ((1 : Int32)) else some ((0 : Int32))
theorem mdX2_isNothing : yX2_isNothing.cls = RX2 ∧ yX2_isNothing.cls ≠ "java/lang/invoke/MethodHandle" ∧ yX2_isNothing.cls ≠ "java/lang/invoke/VarHandle" ∧ (parseMethodDescriptor yX2_isNothing.desc).map (fun d => d.parameters.length) = some 0 := by decide +kernel
set_option maxHeartbeats 4000000 in
set_option maxRecDepth 100000 in
theorem ctX2_isNothing (l : Launch) (D : va_G) (cI cS : ClassId) (a_s a_s_row : Nat) (s_row : Nat → Int32) (s_lane : Int32) (s_length : Int32)  (n : Nat) (r : Int32) (hf : fX2_isNothing n s_lane  = some (r)) : Ct l D (tysA cI cS) yX2_isNothing cX2_isNothing 1 (some .boolean) (Rm 0) [.ref a_s] (W_s cI cS a_s a_s_row s_row s_lane s_length) (some (.int r)) (W_s cI cS a_s a_s_row s_row s_lane s_length) := by
  refine Ct_of (by decide) (Nat.le_of_ble_eq_true rfl) ?_
  intro p e s m args below meth c A ls Cc hK hA hP hD hS hl
  have hl : lv_has ls 1 [(0, .ref a_s)] := hl
  obtain ⟨hx, hb, hr, hml, hown, hts, hlk, hnw⟩ := id Cc
  unfold fX2_isNothing at hf
  refine lv_aload_n hx hb dX2_isNothing_0 rfl (lv_at hl 0 rfl) ?_
  refine va_get (D := D) (ci := 2) (v := .int s_lane) (C := RX2) (T := TX2) (N := 3) hx hb hts inX2 hown hK hP 0 rfl rfl 1 (by decide) (hts _ tw_113) (fun _ h9 => h9) rfl dX2_isNothing_1 ?_
  refine lv_iconst (v := (-1 : Int32)) hx hb dX2_isNothing_4 (by decide) ?_
  refine lv_icmp_ne (tgt := 12) hx hb dX2_isNothing_5 (by decide) (fun hc1 => ?_) (fun hc1 => ?_)
  · replace hf := (if_neg hc1).symm.trans hf
    refine lv_iconst (v := (0 : Int32)) hx hb dX2_isNothing_12 (by decide) ?_
    cases hf
    exact rt_z Cc (by decide) hK hP hD hS dX2_isNothing_13
  · replace hf := (if_pos hc1).symm.trans hf
    refine lv_iconst (v := (1 : Int32)) hx hb dX2_isNothing_8 (by decide) ?_
    refine lv_goto (tgt := 13) hx hb dX2_isNothing_9 (by decide) ?_
    cases hf
    exact rt_z Cc (by decide) hK hP hD hS dX2_isNothing_13
-- X2_becomeNothing
def fX2_becomeNothing (n : Nat) (s_lane : Int32) (s_length : Int32)  : Option (Int32 × Int32) := some ((-1 : Int32), (0 : Int32))
theorem mdX2_becomeNothing : yX2_becomeNothing.cls = RX2 ∧ yX2_becomeNothing.cls ≠ "java/lang/invoke/MethodHandle" ∧ yX2_becomeNothing.cls ≠ "java/lang/invoke/VarHandle" ∧ (parseMethodDescriptor yX2_becomeNothing.desc).map (fun d => d.parameters.length) = some 0 := by decide +kernel
set_option maxHeartbeats 4000000 in
set_option maxRecDepth 100000 in
theorem ctX2_becomeNothing (l : Launch) (D : va_G) (cI cS : ClassId) (a_s a_s_row : Nat) (s_row : Nat → Int32) (s_lane : Int32) (s_length : Int32)  (n : Nat) (s_lane' : Int32) (s_length' : Int32) (hf : fX2_becomeNothing n s_lane s_length  = some (s_lane', s_length')) : Ct l D (tysA cI cS) yX2_becomeNothing cX2_becomeNothing 1 none (Rm 0) [.ref a_s] (W_s cI cS a_s a_s_row s_row s_lane s_length) none (W_s cI cS a_s a_s_row s_row s_lane' s_length') := by
  refine Ct_of (by decide) (Nat.le_of_ble_eq_true rfl) ?_
  intro p e s m args below meth c A ls Cc hK hA hP hD hS hl
  have hl : lv_has ls 1 [(0, .ref a_s)] := hl
  obtain ⟨hx, hb, hr, hml, hown, hts, hlk, hnw⟩ := id Cc
  unfold fX2_becomeNothing at hf
  refine lv_aload_n hx hb dX2_becomeNothing_0 rfl (lv_at hl 0 rfl) ?_
  refine lv_iconst (v := (-1 : Int32)) hx hb dX2_becomeNothing_1 (by decide) ?_
  refine va_put (D := D) (ci := 2) (v := .int (-1 : Int32)) (ty := .int) (C := RX2) (T := TX2) (N := 3) hx hb hts inX2 tyX2 tyX2_ok nmX2 hown hK hP hD hS 0 rfl rfl 1 (by decide) (hts _ tw_113) (fun _ h9 => h9) rfl (tyX2_ok 1 (by decide)) rfl rfl (Nat.le_of_ble_eq_true rfl) dX2_becomeNothing_2 (fun H locs hP hD hS => ?_)
  have hP : va_P D classes (W_s cI cS a_s a_s_row s_row (-1 : Int32) s_length) H := hP
  have hD : va_D A (W_s cI cS a_s a_s_row s_row (-1 : Int32) s_length) := hD
  refine lv_aload_n hx hb dX2_becomeNothing_5 rfl (lv_at hl 0 rfl) ?_
  refine lv_iconst (v := (0 : Int32)) hx hb dX2_becomeNothing_6 (by decide) ?_
  refine va_put (D := D) (ci := 2) (v := .int (0 : Int32)) (ty := .int) (C := RX2) (T := TX2) (N := 3) hx hb hts inX2 tyX2 tyX2_ok nmX2 hown hK hP hD hS 0 rfl rfl 2 (by decide) (hts _ tw_115) (fun _ h9 => h9) rfl (tyX2_ok 2 (by decide)) rfl rfl (Nat.le_of_ble_eq_true rfl) dX2_becomeNothing_7 (fun H locs hP hD hS => ?_)
  have hP : va_P D classes (W_s cI cS a_s a_s_row s_row (-1 : Int32) (0 : Int32)) H := hP
  have hD : va_D A (W_s cI cS a_s a_s_row s_row (-1 : Int32) (0 : Int32)) := hD
  cases hf
  exact rt_v Cc hK hP hD hS dX2_becomeNothing_10
-- X2_becomeRow
def fX2_becomeRow_12 (n : Nat) : Nat → (Nat → Int32) → Int32 → Int32 → Int32 → Option ((Nat → Int32) × Int32 × Int32)
  | 0, _, _, _, _ => none
  | k + 1, s_row, s_lane, s_length, x3 => if (60 : Int32) ≤ x3 then some (s_row, s_lane, s_length) else gd x3 60 (fX2_becomeRow_12 n k (upd s_row x3.toNatClampNeg (0 : Int32)) s_lane s_length (x3 + 1))
def fX2_becomeRow (n : Nat) (s_row : Nat → Int32) (s_lane : Int32) (s_length : Int32) (p1 : Int32) (p2 : Int32) : Option ((Nat → Int32) × Int32 × Int32) := fX2_becomeRow_12 n n s_row p1 p2 (0 : Int32)
theorem mdX2_becomeRow : yX2_becomeRow.cls = RX2 ∧ yX2_becomeRow.cls ≠ "java/lang/invoke/MethodHandle" ∧ yX2_becomeRow.cls ≠ "java/lang/invoke/VarHandle" ∧ (parseMethodDescriptor yX2_becomeRow.desc).map (fun d => d.parameters.length) = some 2 := by decide +kernel
set_option maxHeartbeats 4000000 in
set_option maxRecDepth 100000 in
theorem bX2_becomeRow_12 {p : Program} {l : Launch} {e : Env} {s : State} {m : MethodId} {args : Array Value} {below : List Frame} {meth : Method} {c : Code} {A : Nat → Prop} {D : va_G} {cI cS : ClassId} (a_s a_s_row : Nat) (Cc : Cx p s m args meth c RX2 cX2_becomeRow 4 none) (hK : va_K D classes (tysA cI cS) s) (hA : ∀ q, s.heap.size ≤ q → A q) (n : Nat) : ∀ (k : Nat) (s_row : Nat → Int32) (s_lane : Int32) (s_length : Int32) (x3 : Int32) (s_row' : Nat → Int32) (s_lane' : Int32) (s_length' : Int32), fX2_becomeRow_12 n k s_row s_lane s_length x3 = some (s_row', s_lane', s_length') → ∀ (H : Heap) (locs : List Loc) (ls : Array Slot), va_P D classes (W_s cI cS a_s a_s_row s_row s_lane s_length) H → va_D A (W_s cI cS a_s a_s_row s_row s_lane s_length) → va_S A s.heap H locs → lv_has ls 4 [(0, .ref a_s), (3, .int x3)] → W p l e (Rm 0) s m args below meth c H locs 0 0 (MQ below (QW D (tysA cI cS) none (W_s cI cS a_s a_s_row s_row' s_lane' s_length') A) args s 0 0 A) (F0 m 12 ls []) := by
  obtain ⟨hx, hb, hr, hml, hown, hts, hlk, hnw⟩ := id Cc
  intro k
  induction k with
  | zero =>
    intro s_row s_lane s_length x3 s_row' s_lane' s_length' hf
    rw [fX2_becomeRow_12] at hf
    cases hf
  | succ k ih =>
    intro s_row s_lane s_length x3 s_row' s_lane' s_length' hf H locs ls hP hD hS hl
    rw [fX2_becomeRow_12] at hf
    refine lv_iload_n hx hb dX2_becomeRow_12 rfl (lv_at hl 1 rfl) ?_
    refine lv_bipush (v := (60 : Int32)) hx hb dX2_becomeRow_13 (by decide) ?_
    refine lv_icmp_ge (tgt := 31) hx hb dX2_becomeRow_15 (by decide) (fun hc1 => ?_) (fun hc1 => ?_)
    · replace hf := (if_pos hc1).symm.trans hf
      cases hf
      exact rt_v Cc hK hP hD hS dX2_becomeRow_31
    · replace hf := (if_neg hc1).symm.trans hf
      refine lv_aload_n hx hb dX2_becomeRow_18 rfl (lv_at hl 0 rfl) ?_
      refine va_get (D := D) (ci := 2) (v := .ref a_s_row) (C := RX2) (T := TX2) (N := 3) hx hb hts inX2 hown hK hP 0 rfl rfl 0 (by decide) (hts _ tw_111) (fun _ h9 => h9) rfl dX2_becomeRow_19 ?_
      refine lv_iload_n hx hb dX2_becomeRow_22 rfl (lv_at hl 1 rfl) ?_
      refine lv_iconst (v := (0 : Int32)) hx hb dX2_becomeRow_23 (by decide) ?_
      obtain ⟨hin, hf⟩ := gd_some hf
      refine va_iast hx hb hK hP hD hS 1 0 rfl rfl hin dX2_becomeRow_24 (fun H locs hP hD hS => ?_)
      have hP : va_P D classes (W_s cI cS a_s a_s_row (upd s_row x3.toNatClampNeg (0 : Int32)) s_lane s_length) H := hP
      have hD : va_D A (W_s cI cS a_s a_s_row (upd s_row x3.toNatClampNeg (0 : Int32)) s_lane s_length) := hD
      refine lv_iinc (v := (x3 + 1)) (lv' := [(3, .int (x3 + 1)), (0, .ref a_s)]) hx hb dX2_becomeRow_25 hl (k := 1) rfl rfl (by decide) rfl (fun ls hl => ?_)
      refine lv_goto (tgt := 12) hx hb dX2_becomeRow_28 (by decide) ?_
      exact ih _ _ _ _ _ _ _ hf _ _ _ hP hD hS (lv_sub hl [1, 0] rfl)
set_option maxHeartbeats 4000000 in
set_option maxRecDepth 100000 in
theorem ctX2_becomeRow (l : Launch) (D : va_G) (cI cS : ClassId) (a_s a_s_row : Nat) (s_row : Nat → Int32) (s_lane : Int32) (s_length : Int32) (p1 : Int32) (p2 : Int32) (n : Nat) (s_row' : Nat → Int32) (s_lane' : Int32) (s_length' : Int32) (hf : fX2_becomeRow n s_row s_lane s_length p1 p2 = some (s_row', s_lane', s_length')) : Ct l D (tysA cI cS) yX2_becomeRow cX2_becomeRow 4 none (Rm 0) [.ref a_s, .int p1, .int p2] (W_s cI cS a_s a_s_row s_row s_lane s_length) none (W_s cI cS a_s a_s_row s_row' s_lane' s_length') := by
  refine Ct_of (by decide) (Nat.le_of_ble_eq_true rfl) ?_
  intro p e s m args below meth c A ls Cc hK hA hP hD hS hl
  have hl : lv_has ls 4 [(0, .ref a_s), (1, .int p1), (2, .int p2)] := hl
  obtain ⟨hx, hb, hr, hml, hown, hts, hlk, hnw⟩ := id Cc
  unfold fX2_becomeRow at hf
  refine lv_aload_n hx hb dX2_becomeRow_0 rfl (lv_at hl 0 rfl) ?_
  refine lv_iload_n hx hb dX2_becomeRow_1 rfl (lv_at hl 1 rfl) ?_
  refine va_put (D := D) (ci := 2) (v := .int p1) (ty := .int) (C := RX2) (T := TX2) (N := 3) hx hb hts inX2 tyX2 tyX2_ok nmX2 hown hK hP hD hS 0 rfl rfl 1 (by decide) (hts _ tw_113) (fun _ h9 => h9) rfl (tyX2_ok 1 (by decide)) rfl rfl (Nat.le_of_ble_eq_true rfl) dX2_becomeRow_2 (fun H locs hP hD hS => ?_)
  have hP : va_P D classes (W_s cI cS a_s a_s_row s_row p1 s_length) H := hP
  have hD : va_D A (W_s cI cS a_s a_s_row s_row p1 s_length) := hD
  refine lv_aload_n hx hb dX2_becomeRow_5 rfl (lv_at hl 0 rfl) ?_
  refine lv_iload_n hx hb dX2_becomeRow_6 rfl (lv_at hl 2 rfl) ?_
  refine va_put (D := D) (ci := 2) (v := .int p2) (ty := .int) (C := RX2) (T := TX2) (N := 3) hx hb hts inX2 tyX2 tyX2_ok nmX2 hown hK hP hD hS 0 rfl rfl 2 (by decide) (hts _ tw_115) (fun _ h9 => h9) rfl (tyX2_ok 2 (by decide)) rfl rfl (Nat.le_of_ble_eq_true rfl) dX2_becomeRow_7 (fun H locs hP hD hS => ?_)
  have hP : va_P D classes (W_s cI cS a_s a_s_row s_row p1 p2) H := hP
  have hD : va_D A (W_s cI cS a_s a_s_row s_row p1 p2) := hD
  refine lv_iconst (v := (0 : Int32)) hx hb dX2_becomeRow_10 (by decide) ?_
  refine lv_istore_n (lv' := [(3, .int (0 : Int32)), (0, .ref a_s), (1, .int p1), (2, .int p2)]) hx hb dX2_becomeRow_11 rfl hl (by decide) rfl (fun ls hl => ?_)
  exact bX2_becomeRow_12 a_s a_s_row Cc hK hA n n _ _ _ _ _ _ _ hf _ _ _ hP hD hS (lv_sub hl [1, 0] rfl)
-- X2_faultAs
def fX2_faultAs (n : Nat) (s_lane : Int32) (p1 : Int32) : Option (Int32) := (fX2_isNothing n s_lane).bind fun q1_1 => if q1_1 = 0 then if s_lane = p1 then some ((0 : Int32)) else some ((2 : Int32)) else some ((1 : Int32))
theorem mdX2_faultAs : yX2_faultAs.cls = RX2 ∧ yX2_faultAs.cls ≠ "java/lang/invoke/MethodHandle" ∧ yX2_faultAs.cls ≠ "java/lang/invoke/VarHandle" ∧ (parseMethodDescriptor yX2_faultAs.desc).map (fun d => d.parameters.length) = some 1 := by decide +kernel
set_option maxHeartbeats 4000000 in
set_option maxRecDepth 100000 in
theorem ctX2_faultAs (l : Launch) (D : va_G) (cI cS : ClassId) (a_s a_s_row : Nat) (s_row : Nat → Int32) (s_lane : Int32) (s_length : Int32) (p1 : Int32) (n : Nat) (r : Int32) (hf : fX2_faultAs n s_lane p1 = some (r)) : Ct l D (tysA cI cS) yX2_faultAs cX2_faultAs 2 (some .int) (Rm 1) [.ref a_s, .int p1] (W_s cI cS a_s a_s_row s_row s_lane s_length) (some (.int r)) (W_s cI cS a_s a_s_row s_row s_lane s_length) := by
  refine Ct_of (by decide) (Nat.le_of_ble_eq_true rfl) ?_
  intro p e s m args below meth c A ls Cc hK hA hP hD hS hl
  have hl : lv_has ls 2 [(0, .ref a_s), (1, .int p1)] := hl
  obtain ⟨hx, hb, hr, hml, hown, hts, hlk, hnw⟩ := id Cc
  unfold fX2_faultAs at hf
  refine lv_aload_n hx hb dX2_faultAs_0 rfl (lv_at hl 0 rfl) ?_
  obtain ⟨q1_1, hq1, hf⟩ := Option.bind_eq_some_iff.mp hf
  refine cV (ws' := (W_s cI cS a_s a_s_row s_row s_lane s_length)) (rest := []) (st1 := [.int q1_1]) Cc hK hA hP hD hS hl.1 (ctX2_isNothing l D cI cS a_s a_s_row s_row s_lane s_length  n q1_1 hq1) ⟨tw_165, tw_162, tw_163, tw_164, tw_5⟩ mdX2_isNothing ⟨rfl, rfl, Nat.le_of_ble_eq_true rfl, Nat.le_of_ble_eq_true rfl⟩ rfl dX2_faultAs_1 rfl (Nat.le_of_ble_eq_true rfl) ⟨Nat.zero_le _, Nat.zero_le _⟩ rfl rfl rfl [0, 1] [] [0, 1] rfl rfl (by decide) rfl (fun H locs hP hD hS => ?_)
  refine lv_if_eq (tgt := 9) hx hb dX2_faultAs_4 (by decide) (fun hc2 => ?_) (fun hc2 => ?_)
  · replace hf := (if_pos hc2).symm.trans hf
    refine lv_aload_n hx hb dX2_faultAs_9 rfl (lv_at hl 0 rfl) ?_
    refine va_get (D := D) (ci := 2) (v := .int s_lane) (C := RX2) (T := TX2) (N := 3) hx hb hts inX2 hown hK hP 0 rfl rfl 1 (by decide) (hts _ tw_113) (fun _ h9 => h9) rfl dX2_faultAs_10 ?_
    refine lv_iload_n hx hb dX2_faultAs_13 rfl (lv_at hl 1 rfl) ?_
    refine lv_icmp_ne (tgt := 21) hx hb dX2_faultAs_14 (by decide) (fun hc3 => ?_) (fun hc3 => ?_)
    · replace hf := (if_neg hc3).symm.trans hf
      refine lv_iconst (v := (2 : Int32)) hx hb dX2_faultAs_21 (by decide) ?_
      cases hf
      exact rt_i Cc hK hP hD hS dX2_faultAs_22
    · replace hf := (if_pos hc3).symm.trans hf
      refine lv_iconst (v := (0 : Int32)) hx hb dX2_faultAs_17 (by decide) ?_
      refine lv_goto (tgt := 22) hx hb dX2_faultAs_18 (by decide) ?_
      cases hf
      exact rt_i Cc hK hP hD hS dX2_faultAs_22
  · replace hf := (if_neg hc2).symm.trans hf
    refine lv_iconst (v := (1 : Int32)) hx hb dX2_faultAs_7 (by decide) ?_
    cases hf
    exact rt_i Cc hK hP hD hS dX2_faultAs_8
-- X2_has
def fX2_has (n : Nat) (s_length : Int32) (p1 : Int32) (p2 : Int32) : Option (Int32) := if p1 < 0 then some ((0 : Int32)) else if s_length < p1 then some ((0 : Int32)) else if p2 < 0 then some ((0 : Int32)) else if (s_length - p1) < p2 then some ((0 : Int32)) else some ((1 : Int32))
theorem mdX2_has : yX2_has.cls = RX2 ∧ yX2_has.cls ≠ "java/lang/invoke/MethodHandle" ∧ yX2_has.cls ≠ "java/lang/invoke/VarHandle" ∧ (parseMethodDescriptor yX2_has.desc).map (fun d => d.parameters.length) = some 2 := by decide +kernel
set_option maxHeartbeats 4000000 in
set_option maxRecDepth 100000 in
theorem ctX2_has (l : Launch) (D : va_G) (cI cS : ClassId) (a_s a_s_row : Nat) (s_row : Nat → Int32) (s_lane : Int32) (s_length : Int32) (p1 : Int32) (p2 : Int32) (n : Nat) (r : Int32) (hf : fX2_has n s_length p1 p2 = some (r)) : Ct l D (tysA cI cS) yX2_has cX2_has 3 (some .boolean) (Rm 0) [.ref a_s, .int p1, .int p2] (W_s cI cS a_s a_s_row s_row s_lane s_length) (some (.int r)) (W_s cI cS a_s a_s_row s_row s_lane s_length) := by
  refine Ct_of (by decide) (Nat.le_of_ble_eq_true rfl) ?_
  intro p e s m args below meth c A ls Cc hK hA hP hD hS hl
  have hl : lv_has ls 3 [(0, .ref a_s), (1, .int p1), (2, .int p2)] := hl
  obtain ⟨hx, hb, hr, hml, hown, hts, hlk, hnw⟩ := id Cc
  unfold fX2_has at hf
  refine lv_iload_n hx hb dX2_has_0 rfl (lv_at hl 1 rfl) ?_
  refine lv_if_lt (tgt := 30) hx hb dX2_has_1 (by decide) (fun hc1 => ?_) (fun hc1 => ?_)
  · replace hf := (if_pos hc1).symm.trans hf
    refine lv_iconst (v := (0 : Int32)) hx hb dX2_has_30 (by decide) ?_
    cases hf
    exact rt_z Cc (by decide) hK hP hD hS dX2_has_31
  · replace hf := (if_neg hc1).symm.trans hf
    refine lv_iload_n hx hb dX2_has_4 rfl (lv_at hl 1 rfl) ?_
    refine lv_aload_n hx hb dX2_has_5 rfl (lv_at hl 0 rfl) ?_
    refine va_get (D := D) (ci := 2) (v := .int s_length) (C := RX2) (T := TX2) (N := 3) hx hb hts inX2 hown hK hP 0 rfl rfl 2 (by decide) (hts _ tw_115) (fun _ h9 => h9) rfl dX2_has_6 ?_
    refine lv_icmp_gt (tgt := 30) hx hb dX2_has_9 (by decide) (fun hc2 => ?_) (fun hc2 => ?_)
    · replace hf := (if_pos hc2).symm.trans hf
      refine lv_iconst (v := (0 : Int32)) hx hb dX2_has_30 (by decide) ?_
      cases hf
      exact rt_z Cc (by decide) hK hP hD hS dX2_has_31
    · replace hf := (if_neg hc2).symm.trans hf
      refine lv_iload_n hx hb dX2_has_12 rfl (lv_at hl 2 rfl) ?_
      refine lv_if_lt (tgt := 30) hx hb dX2_has_13 (by decide) (fun hc3 => ?_) (fun hc3 => ?_)
      · replace hf := (if_pos hc3).symm.trans hf
        refine lv_iconst (v := (0 : Int32)) hx hb dX2_has_30 (by decide) ?_
        cases hf
        exact rt_z Cc (by decide) hK hP hD hS dX2_has_31
      · replace hf := (if_neg hc3).symm.trans hf
        refine lv_iload_n hx hb dX2_has_16 rfl (lv_at hl 2 rfl) ?_
        refine lv_aload_n hx hb dX2_has_17 rfl (lv_at hl 0 rfl) ?_
        refine va_get (D := D) (ci := 2) (v := .int s_length) (C := RX2) (T := TX2) (N := 3) hx hb hts inX2 hown hK hP 0 rfl rfl 2 (by decide) (hts _ tw_115) (fun _ h9 => h9) rfl dX2_has_18 ?_
        refine lv_iload_n hx hb dX2_has_21 rfl (lv_at hl 1 rfl) ?_
        refine lv_isub hx hb dX2_has_22 ?_
        refine lv_icmp_gt (tgt := 30) hx hb dX2_has_23 (by decide) (fun hc4 => ?_) (fun hc4 => ?_)
        · replace hf := (if_pos hc4).symm.trans hf
          refine lv_iconst (v := (0 : Int32)) hx hb dX2_has_30 (by decide) ?_
          cases hf
          exact rt_z Cc (by decide) hK hP hD hS dX2_has_31
        · replace hf := (if_neg hc4).symm.trans hf
          refine lv_iconst (v := (1 : Int32)) hx hb dX2_has_26 (by decide) ?_
          refine lv_goto (tgt := 31) hx hb dX2_has_27 (by decide) ?_
          cases hf
          exact rt_z Cc (by decide) hK hP hD hS dX2_has_31
-- X2_cutToLane
def fX2_cutToLane (n : Nat) (s_lane : Int32) (p1 : Int32) : Option (Int32) := if s_lane = 0 then some ((p1).toInt8.toInt32) else if s_lane = 1 then some ((p1).toInt16.toInt32) else some (p1)
theorem mdX2_cutToLane : yX2_cutToLane.cls = RX2 ∧ yX2_cutToLane.cls ≠ "java/lang/invoke/MethodHandle" ∧ yX2_cutToLane.cls ≠ "java/lang/invoke/VarHandle" ∧ (parseMethodDescriptor yX2_cutToLane.desc).map (fun d => d.parameters.length) = some 1 := by decide +kernel
set_option maxHeartbeats 4000000 in
set_option maxRecDepth 100000 in
theorem ctX2_cutToLane (l : Launch) (D : va_G) (cI cS : ClassId) (a_s a_s_row : Nat) (s_row : Nat → Int32) (s_lane : Int32) (s_length : Int32) (p1 : Int32) (n : Nat) (r : Int32) (hf : fX2_cutToLane n s_lane p1 = some (r)) : Ct l D (tysA cI cS) yX2_cutToLane cX2_cutToLane 2 (some .int) (Rm 0) [.ref a_s, .int p1] (W_s cI cS a_s a_s_row s_row s_lane s_length) (some (.int r)) (W_s cI cS a_s a_s_row s_row s_lane s_length) := by
  refine Ct_of (by decide) (Nat.le_of_ble_eq_true rfl) ?_
  intro p e s m args below meth c A ls Cc hK hA hP hD hS hl
  have hl : lv_has ls 2 [(0, .ref a_s), (1, .int p1)] := hl
  obtain ⟨hx, hb, hr, hml, hown, hts, hlk, hnw⟩ := id Cc
  unfold fX2_cutToLane at hf
  refine lv_aload_n hx hb dX2_cutToLane_0 rfl (lv_at hl 0 rfl) ?_
  refine va_get (D := D) (ci := 2) (v := .int s_lane) (C := RX2) (T := TX2) (N := 3) hx hb hts inX2 hown hK hP 0 rfl rfl 1 (by decide) (hts _ tw_113) (fun _ h9 => h9) rfl dX2_cutToLane_1 ?_
  by_cases hs1_0 : s_lane = 0
  · replace hf := (if_pos hs1_0).symm.trans hf
    refine lv_lookup (tgt := 32) (off := 28) hx hb dX2_cutToLane_4 (by decide) (by rw [hs1_0]; decide) (by decide) ?_
    refine lv_iload_n hx hb dX2_cutToLane_32 rfl (lv_at hl 1 rfl) ?_
    refine lv_i2b (v := (p1).toInt8.toInt32) hx hb dX2_cutToLane_33 rfl ?_
    cases hf
    exact rt_i Cc hK hP hD hS dX2_cutToLane_34
  · replace hf := (if_neg hs1_0).symm.trans hf
    by_cases hs1_1 : s_lane = 1
    · replace hf := (if_pos hs1_1).symm.trans hf
      refine lv_lookup (tgt := 35) (off := 31) hx hb dX2_cutToLane_4 (by decide) (by rw [hs1_1]; decide) (by decide) ?_
      refine lv_iload_n hx hb dX2_cutToLane_35 rfl (lv_at hl 1 rfl) ?_
      refine lv_i2s (v := (p1).toInt16.toInt32) hx hb dX2_cutToLane_36 rfl ?_
      cases hf
      exact rt_i Cc hK hP hD hS dX2_cutToLane_37
    · replace hf := (if_neg hs1_1).symm.trans hf
      refine lv_lookup (tgt := 38) (off := 34) hx hb dX2_cutToLane_4 (by decide) (lk_out2 (k0 := 0) (k1 := 1) (nei hs1_0) (nei hs1_1)) (by decide) ?_
      refine lv_iload_n hx hb dX2_cutToLane_38 rfl (lv_at hl 1 rfl) ?_
      cases hf
      exact rt_i Cc hK hP hD hS dX2_cutToLane_39
-- X2_setAt
def fX2_setAt (n : Nat) (s_row : Nat → Int32) (s_lane : Int32) (s_length : Int32) (p1 : Int32) (p2 : Int32) : Option ((Nat → Int32)) := (fX2_hasPlace n s_length p1).bind fun q2_1 => if q2_1 = 0 then some (s_row) else (fX2_cutToLane n s_lane p2).bind fun q15_1 => gd p1 60 (some ((upd s_row p1.toNatClampNeg q15_1)))
theorem mdX2_setAt : yX2_setAt.cls = RX2 ∧ yX2_setAt.cls ≠ "java/lang/invoke/MethodHandle" ∧ yX2_setAt.cls ≠ "java/lang/invoke/VarHandle" ∧ (parseMethodDescriptor yX2_setAt.desc).map (fun d => d.parameters.length) = some 2 := by decide +kernel
set_option maxHeartbeats 4000000 in
set_option maxRecDepth 100000 in
theorem ctX2_setAt (l : Launch) (D : va_G) (cI cS : ClassId) (a_s a_s_row : Nat) (s_row : Nat → Int32) (s_lane : Int32) (s_length : Int32) (p1 : Int32) (p2 : Int32) (n : Nat) (s_row' : Nat → Int32) (hf : fX2_setAt n s_row s_lane s_length p1 p2 = some (s_row')) : Ct l D (tysA cI cS) yX2_setAt cX2_setAt 3 none (Rm 1) [.ref a_s, .int p1, .int p2] (W_s cI cS a_s a_s_row s_row s_lane s_length) none (W_s cI cS a_s a_s_row s_row' s_lane s_length) := by
  refine Ct_of (by decide) (Nat.le_of_ble_eq_true rfl) ?_
  intro p e s m args below meth c A ls Cc hK hA hP hD hS hl
  have hl : lv_has ls 3 [(0, .ref a_s), (1, .int p1), (2, .int p2)] := hl
  obtain ⟨hx, hb, hr, hml, hown, hts, hlk, hnw⟩ := id Cc
  unfold fX2_setAt at hf
  refine lv_aload_n hx hb dX2_setAt_0 rfl (lv_at hl 0 rfl) ?_
  refine lv_iload_n hx hb dX2_setAt_1 rfl (lv_at hl 1 rfl) ?_
  obtain ⟨q2_1, hq1, hf⟩ := Option.bind_eq_some_iff.mp hf
  refine cV (ws' := (W_s cI cS a_s a_s_row s_row s_lane s_length)) (rest := []) (st1 := [.int q2_1]) Cc hK hA hP hD hS hl.1 (ctX2_hasPlace l D cI cS a_s a_s_row s_row s_lane s_length p1 n q2_1 hq1) ⟨tw_187, tw_184, tw_185, tw_186, tw_5⟩ mdX2_hasPlace ⟨rfl, rfl, Nat.le_of_ble_eq_true rfl, Nat.le_of_ble_eq_true rfl⟩ rfl dX2_setAt_2 rfl (Nat.le_of_ble_eq_true rfl) ⟨Nat.zero_le _, Nat.zero_le _⟩ rfl rfl rfl [0, 1] [] [0, 1] rfl rfl (by decide) rfl (fun H locs hP hD hS => ?_)
  refine lv_if_eq (tgt := 19) hx hb dX2_setAt_5 (by decide) (fun hc2 => ?_) (fun hc2 => ?_)
  · replace hf := (if_pos hc2).symm.trans hf
    cases hf
    exact rt_v Cc hK hP hD hS dX2_setAt_19
  · replace hf := (if_neg hc2).symm.trans hf
    refine lv_aload_n hx hb dX2_setAt_8 rfl (lv_at hl 0 rfl) ?_
    refine va_get (D := D) (ci := 2) (v := .ref a_s_row) (C := RX2) (T := TX2) (N := 3) hx hb hts inX2 hown hK hP 0 rfl rfl 0 (by decide) (hts _ tw_111) (fun _ h9 => h9) rfl dX2_setAt_9 ?_
    refine lv_iload_n hx hb dX2_setAt_12 rfl (lv_at hl 1 rfl) ?_
    refine lv_aload_n hx hb dX2_setAt_13 rfl (lv_at hl 0 rfl) ?_
    refine lv_iload_n hx hb dX2_setAt_14 rfl (lv_at hl 2 rfl) ?_
    obtain ⟨q15_1, hq3, hf⟩ := Option.bind_eq_some_iff.mp hf
    refine cV (ws' := (W_s cI cS a_s a_s_row s_row s_lane s_length)) (rest := [.int p1, .ref a_s_row]) (st1 := [.int q15_1, .int p1, .ref a_s_row]) Cc hK hA hP hD hS hl.1 (ctX2_cutToLane l D cI cS a_s a_s_row s_row s_lane s_length p2 n q15_1 hq3) ⟨tw_445, tw_442, tw_444, tp_6, tw_5⟩ mdX2_cutToLane ⟨rfl, rfl, Nat.le_of_ble_eq_true rfl, Nat.le_of_ble_eq_true rfl⟩ rfl dX2_setAt_15 rfl (Nat.le_of_ble_eq_true rfl) ⟨Nat.zero_le _, Nat.zero_le _⟩ rfl rfl rfl [0, 1] [] [0, 1] rfl rfl (by decide) rfl (fun H locs hP hD hS => ?_)
    obtain ⟨hin, hf⟩ := gd_some hf
    refine va_iast hx hb hK hP hD hS 1 0 rfl rfl hin dX2_setAt_18 (fun H locs hP hD hS => ?_)
    have hP : va_P D classes (W_s cI cS a_s a_s_row (upd s_row p1.toNatClampNeg q15_1) s_lane s_length) H := hP
    have hD : va_D A (W_s cI cS a_s a_s_row (upd s_row p1.toNatClampNeg q15_1) s_lane s_length) := hD
    cases hf
    exact rt_v Cc hK hP hD hS dX2_setAt_19
end

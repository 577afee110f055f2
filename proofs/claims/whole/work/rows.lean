section
-- ===== PART A: goes FIRST, ahead of the names: the tables' words, and 'selects' of the private methods out of them =====
/-- a private method of a class that the tables say can be made, by its rows of tables_1 -/
def lw_okq (q : MethodName × Nat) : Prop := (q.1.cls ≠ "java/lang/invoke/MethodHandle" ∧ q.1.cls ≠ "java/lang/invoke/VarHandle") ∧ Cond.instantiable q.1.cls q.2 ∈ tables_1 ∧ Cond.privateMethod q.1 ∈ tables_1 ∧ Cond.instanceMethod q.1 ∈ tables_1
theorem lw_p0 : lw_okq (⟨"TankChain", "tankAt", "(I)LTankChain$Tank;"⟩, 15) := ⟨⟨by decide +kernel, by decide +kernel⟩, List.mem_of_getElem? (i := 16) (by decide +kernel), List.mem_of_getElem? (i := 281) (by decide +kernel), List.mem_of_getElem? (i := 282) (by decide +kernel)⟩
theorem lw_p1 : lw_okq (⟨"TankChain$Tape", "putByte", "(I)V"⟩, 6) := ⟨⟨by decide +kernel, by decide +kernel⟩, List.mem_of_getElem? (i := 26) (by decide +kernel), List.mem_of_getElem? (i := 393) (by decide +kernel), List.mem_of_getElem? (i := 394) (by decide +kernel)⟩
theorem lw_p2 : lw_okq (⟨"TankChain$Tape", "nextToken", "()V"⟩, 6) := ⟨⟨by decide +kernel, by decide +kernel⟩, List.mem_of_getElem? (i := 26) (by decide +kernel), List.mem_of_getElem? (i := 409) (by decide +kernel), List.mem_of_getElem? (i := 410) (by decide +kernel)⟩
theorem lw_p3 : lw_okq (⟨"TankChain$Tape", "byteAt", "(I)I"⟩, 6) := ⟨⟨by decide +kernel, by decide +kernel⟩, List.mem_of_getElem? (i := 26) (by decide +kernel), List.mem_of_getElem? (i := 413) (by decide +kernel), List.mem_of_getElem? (i := 414) (by decide +kernel)⟩
theorem lw_p4 : lw_okq (⟨"TankChain$Tape", "readStatement", "(LTankChain$Custom;)Z"⟩, 6) := ⟨⟨by decide +kernel, by decide +kernel⟩, List.mem_of_getElem? (i := 26) (by decide +kernel), List.mem_of_getElem? (i := 426) (by decide +kernel), List.mem_of_getElem? (i := 427) (by decide +kernel)⟩
theorem lw_p5 : lw_okq (⟨"TankChain$Tape", "isWord", "(Ljava/lang/String;)Z"⟩, 6) := ⟨⟨by decide +kernel, by decide +kernel⟩, List.mem_of_getElem? (i := 26) (by decide +kernel), List.mem_of_getElem? (i := 431) (by decide +kernel), List.mem_of_getElem? (i := 432) (by decide +kernel)⟩
theorem lw_p6 : lw_okq (⟨"TankChain$Tape", "readFirst", "(LTankChain$Custom;)Z"⟩, 6) := ⟨⟨by decide +kernel, by decide +kernel⟩, List.mem_of_getElem? (i := 26) (by decide +kernel), List.mem_of_getElem? (i := 483) (by decide +kernel), List.mem_of_getElem? (i := 484) (by decide +kernel)⟩
theorem lw_p7 : lw_okq (⟨"TankChain$Tape", "numberHere", "()I"⟩, 6) := ⟨⟨by decide +kernel, by decide +kernel⟩, List.mem_of_getElem? (i := 26) (by decide +kernel), List.mem_of_getElem? (i := 494) (by decide +kernel), List.mem_of_getElem? (i := 495) (by decide +kernel)⟩
theorem lw_p8 : lw_okq (⟨"TankChain", "orderAnew", "()V"⟩, 15) := ⟨⟨by decide +kernel, by decide +kernel⟩, List.mem_of_getElem? (i := 16) (by decide +kernel), List.mem_of_getElem? (i := 506) (by decide +kernel), List.mem_of_getElem? (i := 507) (by decide +kernel)⟩
theorem lw_p9 : lw_okq (⟨"TankChain", "fieldAt", "(I)LTankChain$Field;"⟩, 15) := ⟨⟨by decide +kernel, by decide +kernel⟩, List.mem_of_getElem? (i := 16) (by decide +kernel), List.mem_of_getElem? (i := 510) (by decide +kernel), List.mem_of_getElem? (i := 511) (by decide +kernel)⟩
theorem lw_p10 : lw_okq (⟨"TankChain", "addSilt", "()V"⟩, 15) := ⟨⟨by decide +kernel, by decide +kernel⟩, List.mem_of_getElem? (i := 16) (by decide +kernel), List.mem_of_getElem? (i := 522) (by decide +kernel), List.mem_of_getElem? (i := 523) (by decide +kernel)⟩
theorem lw_p11 : lw_okq (⟨"TankChain$Flow", "sentDown", "(LTankChain$Tank;II)I"⟩, 4) := ⟨⟨by decide +kernel, by decide +kernel⟩, List.mem_of_getElem? (i := 207) (by decide +kernel), List.mem_of_getElem? (i := 542) (by decide +kernel), List.mem_of_getElem? (i := 543) (by decide +kernel)⟩
theorem lw_p12 : lw_okq (⟨"TankChain$Flow", "takenByFields", "(LTankChain$Tank;I)I"⟩, 4) := ⟨⟨by decide +kernel, by decide +kernel⟩, List.mem_of_getElem? (i := 207) (by decide +kernel), List.mem_of_getElem? (i := 546) (by decide +kernel), List.mem_of_getElem? (i := 547) (by decide +kernel)⟩
theorem lw_p13 : lw_okq (⟨"TankChain", "keepTanks", "()V"⟩, 15) := ⟨⟨by decide +kernel, by decide +kernel⟩, List.mem_of_getElem? (i := 16) (by decide +kernel), List.mem_of_getElem? (i := 573) (by decide +kernel), List.mem_of_getElem? (i := 574) (by decide +kernel)⟩
theorem lw_p14 : lw_okq (⟨"TankChain", "keepFields", "()V"⟩, 15) := ⟨⟨by decide +kernel, by decide +kernel⟩, List.mem_of_getElem? (i := 16) (by decide +kernel), List.mem_of_getElem? (i := 578) (by decide +kernel), List.mem_of_getElem? (i := 579) (by decide +kernel)⟩
theorem lw_p15 : lw_okq (⟨"TankChain", "waterTried", "(LTankChain$Tank;LTankChain$Tank;II)I"⟩, 15) := ⟨⟨by decide +kernel, by decide +kernel⟩, List.mem_of_getElem? (i := 16) (by decide +kernel), List.mem_of_getElem? (i := 618) (by decide +kernel), List.mem_of_getElem? (i := 619) (by decide +kernel)⟩
def lw_privs_1 : List (MethodName × Nat) := [(⟨"TankChain", "tankAt", "(I)LTankChain$Tank;"⟩, 15), (⟨"TankChain$Tape", "putByte", "(I)V"⟩, 6), (⟨"TankChain$Tape", "nextToken", "()V"⟩, 6), (⟨"TankChain$Tape", "byteAt", "(I)I"⟩, 6), (⟨"TankChain$Tape", "readStatement", "(LTankChain$Custom;)Z"⟩, 6), (⟨"TankChain$Tape", "isWord", "(Ljava/lang/String;)Z"⟩, 6), (⟨"TankChain$Tape", "readFirst", "(LTankChain$Custom;)Z"⟩, 6), (⟨"TankChain$Tape", "numberHere", "()I"⟩, 6), (⟨"TankChain", "orderAnew", "()V"⟩, 15), (⟨"TankChain", "fieldAt", "(I)LTankChain$Field;"⟩, 15), (⟨"TankChain", "addSilt", "()V"⟩, 15), (⟨"TankChain$Flow", "sentDown", "(LTankChain$Tank;II)I"⟩, 4), (⟨"TankChain$Flow", "takenByFields", "(LTankChain$Tank;I)I"⟩, 4), (⟨"TankChain", "keepTanks", "()V"⟩, 15), (⟨"TankChain", "keepFields", "()V"⟩, 15), (⟨"TankChain", "waterTried", "(LTankChain$Tank;LTankChain$Tank;II)I"⟩, 15)]
theorem lw_r1 : ∀ q ∈ lw_privs_1, lw_okq q := List.forall_mem_cons.mpr ⟨lw_p0, List.forall_mem_cons.mpr ⟨lw_p1, List.forall_mem_cons.mpr ⟨lw_p2, List.forall_mem_cons.mpr ⟨lw_p3, List.forall_mem_cons.mpr ⟨lw_p4, List.forall_mem_cons.mpr ⟨lw_p5, List.forall_mem_cons.mpr ⟨lw_p6, List.forall_mem_cons.mpr ⟨lw_p7, List.forall_mem_cons.mpr ⟨lw_p8, List.forall_mem_cons.mpr ⟨lw_p9, List.forall_mem_cons.mpr ⟨lw_p10, List.forall_mem_cons.mpr ⟨lw_p11, List.forall_mem_cons.mpr ⟨lw_p12, List.forall_mem_cons.mpr ⟨lw_p13, List.forall_mem_cons.mpr ⟨lw_p14, List.forall_mem_cons.mpr ⟨lw_p15, fun _ h => absurd h List.not_mem_nil⟩⟩⟩⟩⟩⟩⟩⟩⟩⟩⟩⟩⟩⟩⟩⟩
theorem lw_p16 : lw_okq (⟨"TankChain", "areasFedBy", "(IIIII)I"⟩, 15) := ⟨⟨by decide +kernel, by decide +kernel⟩, List.mem_of_getElem? (i := 16) (by decide +kernel), List.mem_of_getElem? (i := 631) (by decide +kernel), List.mem_of_getElem? (i := 632) (by decide +kernel)⟩
theorem lw_p17 : lw_okq (⟨"TankChain", "allWater", "()I"⟩, 15) := ⟨⟨by decide +kernel, by decide +kernel⟩, List.mem_of_getElem? (i := 16) (by decide +kernel), List.mem_of_getElem? (i := 646) (by decide +kernel), List.mem_of_getElem? (i := 647) (by decide +kernel)⟩
theorem lw_p18 : lw_okq (⟨"TankChainModel", "isTank", "(I)Z"⟩, 47) := ⟨⟨by decide +kernel, by decide +kernel⟩, List.mem_of_getElem? (i := 653) (by decide +kernel), List.mem_of_getElem? (i := 808) (by decide +kernel), List.mem_of_getElem? (i := 809) (by decide +kernel)⟩
theorem lw_p19 : lw_okq (⟨"TankChainModel", "room", "(IZ)I"⟩, 47) := ⟨⟨by decide +kernel, by decide +kernel⟩, List.mem_of_getElem? (i := 653) (by decide +kernel), List.mem_of_getElem? (i := 819) (by decide +kernel), List.mem_of_getElem? (i := 820) (by decide +kernel)⟩
theorem lw_p20 : lw_okq (⟨"TankChainModel", "four", "(I)V"⟩, 47) := ⟨⟨by decide +kernel, by decide +kernel⟩, List.mem_of_getElem? (i := 653) (by decide +kernel), List.mem_of_getElem? (i := 843) (by decide +kernel), List.mem_of_getElem? (i := 844) (by decide +kernel)⟩
theorem lw_p21 : lw_okq (⟨"TankChainModel", "blanks", "()V"⟩, 47) := ⟨⟨by decide +kernel, by decide +kernel⟩, List.mem_of_getElem? (i := 653) (by decide +kernel), List.mem_of_getElem? (i := 851) (by decide +kernel), List.mem_of_getElem? (i := 852) (by decide +kernel)⟩
theorem lw_p22 : lw_okq (⟨"TankChainModel", "statement", "()Z"⟩, 47) := ⟨⟨by decide +kernel, by decide +kernel⟩, List.mem_of_getElem? (i := 653) (by decide +kernel), List.mem_of_getElem? (i := 855) (by decide +kernel), List.mem_of_getElem? (i := 856) (by decide +kernel)⟩
theorem lw_p23 : lw_okq (⟨"TankChainModel", "takes", "(J)Z"⟩, 47) := ⟨⟨by decide +kernel, by decide +kernel⟩, List.mem_of_getElem? (i := 653) (by decide +kernel), List.mem_of_getElem? (i := 860) (by decide +kernel), List.mem_of_getElem? (i := 861) (by decide +kernel)⟩
theorem lw_p24 : lw_okq (⟨"TankChainModel", "word", "()J"⟩, 47) := ⟨⟨by decide +kernel, by decide +kernel⟩, List.mem_of_getElem? (i := 653) (by decide +kernel), List.mem_of_getElem? (i := 864) (by decide +kernel), List.mem_of_getElem? (i := 865) (by decide +kernel)⟩
theorem lw_p25 : lw_okq (⟨"TankChainModel", "takesNumber", "()Z"⟩, 47) := ⟨⟨by decide +kernel, by decide +kernel⟩, List.mem_of_getElem? (i := 653) (by decide +kernel), List.mem_of_getElem? (i := 871) (by decide +kernel), List.mem_of_getElem? (i := 872) (by decide +kernel)⟩
theorem lw_p26 : lw_okq (⟨"TankChainModel", "ordered", "(I)I"⟩, 47) := ⟨⟨by decide +kernel, by decide +kernel⟩, List.mem_of_getElem? (i := 653) (by decide +kernel), List.mem_of_getElem? (i := 885) (by decide +kernel), List.mem_of_getElem? (i := 886) (by decide +kernel)⟩
theorem lw_p27 : lw_okq (⟨"TankChainModel", "isAhead", "(II)Z"⟩, 47) := ⟨⟨by decide +kernel, by decide +kernel⟩, List.mem_of_getElem? (i := 653) (by decide +kernel), List.mem_of_getElem? (i := 889) (by decide +kernel), List.mem_of_getElem? (i := 890) (by decide +kernel)⟩
theorem lw_p28 : lw_okq (⟨"TankChainModel", "custom", "(II)I"⟩, 47) := ⟨⟨by decide +kernel, by decide +kernel⟩, List.mem_of_getElem? (i := 653) (by decide +kernel), List.mem_of_getElem? (i := 893) (by decide +kernel), List.mem_of_getElem? (i := 894) (by decide +kernel)⟩
theorem lw_p29 : lw_okq (⟨"TankChainModel", "flows", "([I[Z[IIZ)I"⟩, 47) := ⟨⟨by decide +kernel, by decide +kernel⟩, List.mem_of_getElem? (i := 653) (by decide +kernel), List.mem_of_getElem? (i := 904) (by decide +kernel), List.mem_of_getElem? (i := 905) (by decide +kernel)⟩
theorem lw_p30 : lw_okq (⟨"TankChainModel", "gives", "(III)I"⟩, 47) := ⟨⟨by decide +kernel, by decide +kernel⟩, List.mem_of_getElem? (i := 653) (by decide +kernel), List.mem_of_getElem? (i := 908) (by decide +kernel), List.mem_of_getElem? (i := 909) (by decide +kernel)⟩
theorem lw_p31 : lw_okq (⟨"TankChainModel", "isBad", "(II)Z"⟩, 47) := ⟨⟨by decide +kernel, by decide +kernel⟩, List.mem_of_getElem? (i := 653) (by decide +kernel), List.mem_of_getElem? (i := 912) (by decide +kernel), List.mem_of_getElem? (i := 913) (by decide +kernel)⟩
def lw_privs_2 : List (MethodName × Nat) := [(⟨"TankChain", "areasFedBy", "(IIIII)I"⟩, 15), (⟨"TankChain", "allWater", "()I"⟩, 15), (⟨"TankChainModel", "isTank", "(I)Z"⟩, 47), (⟨"TankChainModel", "room", "(IZ)I"⟩, 47), (⟨"TankChainModel", "four", "(I)V"⟩, 47), (⟨"TankChainModel", "blanks", "()V"⟩, 47), (⟨"TankChainModel", "statement", "()Z"⟩, 47), (⟨"TankChainModel", "takes", "(J)Z"⟩, 47), (⟨"TankChainModel", "word", "()J"⟩, 47), (⟨"TankChainModel", "takesNumber", "()Z"⟩, 47), (⟨"TankChainModel", "ordered", "(I)I"⟩, 47), (⟨"TankChainModel", "isAhead", "(II)Z"⟩, 47), (⟨"TankChainModel", "custom", "(II)I"⟩, 47), (⟨"TankChainModel", "flows", "([I[Z[IIZ)I"⟩, 47), (⟨"TankChainModel", "gives", "(III)I"⟩, 47), (⟨"TankChainModel", "isBad", "(II)Z"⟩, 47)]
theorem lw_r2 : ∀ q ∈ lw_privs_2, lw_okq q := List.forall_mem_cons.mpr ⟨lw_p16, List.forall_mem_cons.mpr ⟨lw_p17, List.forall_mem_cons.mpr ⟨lw_p18, List.forall_mem_cons.mpr ⟨lw_p19, List.forall_mem_cons.mpr ⟨lw_p20, List.forall_mem_cons.mpr ⟨lw_p21, List.forall_mem_cons.mpr ⟨lw_p22, List.forall_mem_cons.mpr ⟨lw_p23, List.forall_mem_cons.mpr ⟨lw_p24, List.forall_mem_cons.mpr ⟨lw_p25, List.forall_mem_cons.mpr ⟨lw_p26, List.forall_mem_cons.mpr ⟨lw_p27, List.forall_mem_cons.mpr ⟨lw_p28, List.forall_mem_cons.mpr ⟨lw_p29, List.forall_mem_cons.mpr ⟨lw_p30, List.forall_mem_cons.mpr ⟨lw_p31, fun _ h => absurd h List.not_mem_nil⟩⟩⟩⟩⟩⟩⟩⟩⟩⟩⟩⟩⟩⟩⟩⟩
theorem lw_p32 : lw_okq (⟨"TankChainModel", "openings", "()V"⟩, 47) := ⟨⟨by decide +kernel, by decide +kernel⟩, List.mem_of_getElem? (i := 653) (by decide +kernel), List.mem_of_getElem? (i := 935) (by decide +kernel), List.mem_of_getElem? (i := 936) (by decide +kernel)⟩
theorem lw_p33 : lw_okq (⟨"TankChainModel", "tries", "(II)I"⟩, 47) := ⟨⟨by decide +kernel, by decide +kernel⟩, List.mem_of_getElem? (i := 653) (by decide +kernel), List.mem_of_getElem? (i := 939) (by decide +kernel), List.mem_of_getElem? (i := 940) (by decide +kernel)⟩
def lw_privs_3 : List (MethodName × Nat) := [(⟨"TankChainModel", "openings", "()V"⟩, 47), (⟨"TankChainModel", "tries", "(II)I"⟩, 47)]
theorem lw_r3 : ∀ q ∈ lw_privs_3, lw_okq q := List.forall_mem_cons.mpr ⟨lw_p32, List.forall_mem_cons.mpr ⟨lw_p33, fun _ h => absurd h List.not_mem_nil⟩⟩
def lw_privs : List (MethodName × Nat) := lw_privs_1 ++ (lw_privs_2 ++ (lw_privs_3))
def lw_tbl : List Cond := k2_sels lw_privs ++ tables_1
theorem lw_privs_ok : ∀ q ∈ lw_privs, lw_okq q := by
  show ∀ q ∈ lw_privs_1 ++ (lw_privs_2 ++ (lw_privs_3)), lw_okq q
  exact List.forall_mem_append.mpr ⟨lw_r1, List.forall_mem_append.mpr ⟨lw_r2, lw_r3⟩⟩
end
section
/-! ===== BEGIN words of one list among another's, by their places ===== -/
theorem goodIn_r {big : List Cond} (ws : List Cond) (ps : List Nat) (hp : ws = ps.filterMap (fun i => big[i]?)) (h : ws.all goodWord = true) : GoodIn big ws := by
  intro w hw
  have h1 := List.all_eq_true.mp h w hw
  rw [hp] at hw
  obtain ⟨i, -, hi⟩ := List.mem_filterMap.mp hw
  have hm : w ∈ big := by first | exact List.mem_of_getElem? hi | exact List.getElem?_mem hi
  exact ⟨hm, good_of_word h1⟩
theorem goodIn_app {big a b : List Cond} (ha : GoodIn big a) (hb : GoodIn big b) : GoodIn big (a ++ b) := fun w h => (List.mem_append.mp h).elim (ha w) (hb w)
theorem goodIn_ca {big a b : List Cond} {c : Cond} (ha : GoodIn big (c :: a)) (hb : GoodIn big b) : GoodIn big (c :: (a ++ b)) := fun w h => (List.mem_cons.mp h).elim (fun e => ha w (List.mem_cons.mpr (Or.inl e))) (fun h => (List.mem_append.mp h).elim (fun h => ha w (List.mem_cons.mpr (Or.inr h))) (hb w))
theorem goodIn_sub {big ws : List Cond} (hm : ∀ w ∈ ws, w ∈ big) (h : ws.all goodWord = true) : GoodIn big ws := fun w hw => ⟨hm w hw, good_of_word (List.all_eq_true.mp h w hw)⟩
/-! ===== END ===== -/

/-! ===== BEGIN printed: names, fields, word lists, decode rows ===== -/
def RX0 : String := "TankChain$Custom"
def TX0 : u_T := fun k => match k with
  | 0 => ("TankChain$Custom", "firsts", "[I", true)
  | 1 => ("TankChain$Custom", "firstsThere", "I", false)
  | 2 => ("TankChain$Custom", "near", "I", false)
  | 3 => ("TankChain$Custom", "hold", "I", false)
  | 4 => ("TankChain$Custom", "fair", "Z", false)
  | _ => ("TankChain$Custom", "statements", "I", false)
def tyX0 : Nat → FieldType := fun k => match k with
  | 0 => .array .int
  | 1 => .int
  | 2 => .int
  | 3 => .int
  | 4 => .boolean
  | _ => .int
abbrev wsX00 : List Cond := u_ws RX0 TX0 6
theorem nmX0 : ∀ a, a < 6 → ∀ b, b < 6 → a ≠ b → (TX0 a).2.1 ≠ (TX0 b).2.1 := by decide +kernel
theorem tyX0_ok : ∀ k, k < 6 → parseFieldDescriptor (TX0 k).2.2.1 = some (tyX0 k) := by decide +kernel
abbrev cX0_init : ByteArray := prog_2_method_1_code
def yX0_init : MethodName := ⟨RX0, "<init>", "()V"⟩
abbrev cX0_clear : ByteArray := prog_2_method_2_code
def yX0_clear : MethodName := ⟨RX0, "clear", "()V"⟩
abbrev cX0_becomeAs : ByteArray := prog_2_method_3_code
def yX0_becomeAs : MethodName := ⟨RX0, "becomeAs", "(LTankChain$Custom;)V"⟩
abbrev cX0_addFirst : ByteArray := prog_2_method_4_code
def yX0_addFirst : MethodName := ⟨RX0, "addFirst", "(I)V"⟩
abbrev cX0_isAhead : ByteArray := prog_2_method_5_code
def yX0_isAhead : MethodName := ⟨RX0, "isAhead", "(LTankChain$Field;LTankChain$Field;)Z"⟩
abbrev cX0_rank : ByteArray := prog_2_method_6_code
def yX0_rank : MethodName := ⟨RX0, "rank", "(LTankChain$Field;I)I"⟩
def RX1 : String := "TankChain$Field"
def TX1 : u_T := fun k => match k with
  | 0 => ("TankChain$Field", "number", "I", true)
  | 1 => ("TankChain$Field", "tank", "I", true)
  | 2 => ("TankChain$Field", "far", "I", true)
  | 3 => ("TankChain$Field", "area", "I", true)
  | 4 => ("TankChain$Field", "owner", "I", true)
  | 5 => ("TankChain$Field", "temple", "Z", true)
  | 6 => ("TankChain$Field", "next", "LTankChain$Field;", false)
  | 7 => ("TankChain$Field", "share", "I", false)
  | 8 => ("TankChain$Field", "remainder", "I", false)
  | 9 => ("TankChain$Field", "daysFed", "I", false)
  | 10 => ("TankChain$Field", "gotEver", "I", false)
  | _ => ("TankChain$Field", "gotLately", "I", false)
def tyX1 : Nat → FieldType := fun k => match k with
  | 0 => .int
  | 1 => .int
  | 2 => .int
  | 3 => .int
  | 4 => .int
  | 5 => .boolean
  | 6 => .object "TankChain$Field"
  | 7 => .int
  | 8 => .int
  | 9 => .int
  | 10 => .int
  | _ => .int
abbrev wsX10 : List Cond := u_ws RX1 TX1 12
theorem nmX1 : ∀ a, a < 12 → ∀ b, b < 12 → a ≠ b → (TX1 a).2.1 ≠ (TX1 b).2.1 := by decide +kernel
theorem tyX1_ok : ∀ k, k < 12 → parseFieldDescriptor (TX1 k).2.2.1 = some (tyX1 k) := by decide +kernel
abbrev cX1_init : ByteArray := prog_3_method_1_code
def yX1_init : MethodName := ⟨RX1, "<init>", "(IIIIIZ)V"⟩
abbrev cX1_isFed : ByteArray := prog_3_method_2_code
def yX1_isFed : MethodName := ⟨RX1, "isFed", "()Z"⟩
abbrev cX1_keepShare : ByteArray := prog_3_method_3_code
def yX1_keepShare : MethodName := ⟨RX1, "keepShare", "()V"⟩
def RX2 : String := "TankChain$Flow"
def TX2 : u_T := fun k => match k with
  | 0 => ("TankChain$Flow", "head", "LTankChain$Tank;", true)
  | 1 => ("TankChain$Flow", "custom", "LTankChain$Custom;", true)
  | 2 => ("TankChain$Flow", "sums", "LTankChain$Sums;", true)
  | _ => ("TankChain$Flow", "areasFed", "I", false)
def tyX2 : Nat → FieldType := fun k => match k with
  | 0 => .object "TankChain$Tank"
  | 1 => .object "TankChain$Custom"
  | 2 => .object "TankChain$Sums"
  | _ => .int
abbrev wsX20 : List Cond := u_ws RX2 TX2 4
theorem nmX2 : ∀ a, a < 4 → ∀ b, b < 4 → a ≠ b → (TX2 a).2.1 ≠ (TX2 b).2.1 := by decide +kernel
theorem tyX2_ok : ∀ k, k < 4 → parseFieldDescriptor (TX2 k).2.2.1 = some (tyX2 k) := by decide +kernel
abbrev cX2_init : ByteArray := prog_4_method_1_code
def yX2_init : MethodName := ⟨RX2, "<init>", "(LTankChain$Tank;LTankChain$Custom;)V"⟩
abbrev cX2_startFromNow : ByteArray := prog_4_method_2_code
def yX2_startFromNow : MethodName := ⟨RX2, "startFromNow", "()V"⟩
abbrev cX2_passDay : ByteArray := prog_4_method_3_code
def yX2_passDay : MethodName := ⟨RX2, "passDay", "(I)V"⟩
abbrev cX2_sentDown : ByteArray := prog_4_method_4_code
def yX2_sentDown : MethodName := ⟨RX2, "sentDown", "(LTankChain$Tank;II)I"⟩
abbrev cX2_takenByFields : ByteArray := prog_4_method_5_code
def yX2_takenByFields : MethodName := ⟨RX2, "takenByFields", "(LTankChain$Tank;I)I"⟩
abbrev cX2_areasWithin : ByteArray := prog_4_method_6_code
def yX2_areasWithin : MethodName := ⟨RX2, "areasWithin", "(LTankChain$Tank;I)I"⟩
abbrev cX2_shareInOrder : ByteArray := prog_4_method_7_code
def yX2_shareInOrder : MethodName := ⟨RX2, "shareInOrder", "(LTankChain$Tank;II)V"⟩
abbrev cX2_shareFairly : ByteArray := prog_4_method_8_code
def yX2_shareFairly : MethodName := ⟨RX2, "shareFairly", "(LTankChain$Tank;III)V"⟩
abbrev cX2_giveOneMore : ByteArray := prog_4_method_9_code
def yX2_giveOneMore : MethodName := ⟨RX2, "giveOneMore", "(LTankChain$Tank;)V"⟩
def RX3 : String := "TankChain$Pool"
def TX3 : u_T := fun k => match k with
  | 0 => ("TankChain$Pool", "water", "I", false)
  | 1 => ("TankChain$Pool", "opening", "I", false)
  | 2 => ("TankChain$Pool", "breached", "Z", false)
  | 3 => ("TankChain$Pool", "taken", "I", false)
  | _ => ("TankChain$Pool", "spilt", "I", false)
def tyX3 : Nat → FieldType := fun k => match k with
  | 0 => .int
  | 1 => .int
  | 2 => .boolean
  | 3 => .int
  | _ => .int
abbrev wsX30 : List Cond := u_ws RX3 TX3 5
theorem nmX3 : ∀ a, a < 5 → ∀ b, b < 5 → a ≠ b → (TX3 a).2.1 ≠ (TX3 b).2.1 := by decide +kernel
theorem tyX3_ok : ∀ k, k < 5 → parseFieldDescriptor (TX3 k).2.2.1 = some (tyX3 k) := by decide +kernel
abbrev cX3_init : ByteArray := prog_5_method_1_code
def yX3_init : MethodName := ⟨RX3, "<init>", "()V"⟩
abbrev cX3_becomeAs : ByteArray := prog_5_method_2_code
def yX3_becomeAs : MethodName := ⟨RX3, "becomeAs", "(LTankChain$Pool;)V"⟩
def RX4 : String := "TankChain$Sums"
def TX4 : u_T := fun k => match k with
  | 0 => ("TankChain$Sums", "rained", "I", false)
  | 1 => ("TankChain$Sums", "seeped", "I", false)
  | 2 => ("TankChain$Sums", "kept", "I", false)
  | _ => ("TankChain$Sums", "out", "I", false)
def tyX4 : Nat → FieldType := fun k => match k with
  | 0 => .int
  | 1 => .int
  | 2 => .int
  | _ => .int
abbrev wsX40 : List Cond := u_ws RX4 TX4 4
theorem nmX4 : ∀ a, a < 4 → ∀ b, b < 4 → a ≠ b → (TX4 a).2.1 ≠ (TX4 b).2.1 := by decide +kernel
theorem tyX4_ok : ∀ k, k < 4 → parseFieldDescriptor (TX4 k).2.2.1 = some (tyX4 k) := by decide +kernel
abbrev cX4_init : ByteArray := prog_6_method_1_code
def yX4_init : MethodName := ⟨RX4, "<init>", "()V"⟩
abbrev cX4_clear : ByteArray := prog_6_method_2_code
def yX4_clear : MethodName := ⟨RX4, "clear", "()V"⟩
abbrev cX4_addAll : ByteArray := prog_6_method_3_code
def yX4_addAll : MethodName := ⟨RX4, "addAll", "(LTankChain$Sums;)V"⟩
def RX5 : String := "TankChain$Tank"
def TX5 : u_T := fun k => match k with
  | 0 => ("TankChain$Tank", "number", "I", true)
  | 1 => ("TankChain$Tank", "below", "LTankChain$Tank;", true)
  | 2 => ("TankChain$Tank", "now", "LTankChain$Pool;", true)
  | 3 => ("TankChain$Tank", "after", "LTankChain$Pool;", true)
  | 4 => ("TankChain$Tank", "catches", "I", false)
  | 5 => ("TankChain$Tank", "size", "I", false)
  | 6 => ("TankChain$Tank", "bank", "I", false)
  | 7 => ("TankChain$Tank", "silt", "I", false)
  | 8 => ("TankChain$Tank", "breachedOn", "I", false)
  | _ => ("TankChain$Tank", "firstField", "LTankChain$Field;", false)
def tyX5 : Nat → FieldType := fun k => match k with
  | 0 => .int
  | 1 => .object "TankChain$Tank"
  | 2 => .object "TankChain$Pool"
  | 3 => .object "TankChain$Pool"
  | 4 => .int
  | 5 => .int
  | 6 => .int
  | 7 => .int
  | 8 => .int
  | _ => .object "TankChain$Field"
abbrev wsX50 : List Cond := u_ws RX5 TX5 10
theorem nmX5 : ∀ a, a < 10 → ∀ b, b < 10 → a ≠ b → (TX5 a).2.1 ≠ (TX5 b).2.1 := by decide +kernel
theorem tyX5_ok : ∀ k, k < 10 → parseFieldDescriptor (TX5 k).2.2.1 = some (tyX5 k) := by decide +kernel
abbrev cX5_init : ByteArray := prog_7_method_1_code
def yX5_init : MethodName := ⟨RX5, "<init>", "(ILTankChain$Tank;)V"⟩
abbrev cX5_roomIf : ByteArray := prog_7_method_2_code
def yX5_roomIf : MethodName := ⟨RX5, "roomIf", "(Z)I"⟩
abbrev cX5_isBadYearWith : ByteArray := prog_7_method_3_code
def yX5_isBadYearWith : MethodName := ⟨RX5, "isBadYearWith", "(I)Z"⟩
abbrev cX5_putInOrder : ByteArray := prog_7_method_4_code
def yX5_putInOrder : MethodName := ⟨RX5, "putInOrder", "(LTankChain$Field;LTankChain$Custom;)V"⟩
def RX6 : String := "TankChain$Tape"
def TX6 : u_T := fun k => match k with
  | 0 => ("TankChain$Tape", "bytes", "[B", true)
  | 1 => ("TankChain$Tape", "held", "I", false)
  | 2 => ("TankChain$Tape", "length", "I", false)
  | 3 => ("TankChain$Tape", "kind", "I", false)
  | 4 => ("TankChain$Tape", "begin", "I", false)
  | _ => ("TankChain$Tape", "end", "I", false)
def tyX6 : Nat → FieldType := fun k => match k with
  | 0 => .array .byte
  | 1 => .int
  | 2 => .int
  | 3 => .int
  | 4 => .int
  | _ => .int
abbrev wsX60 : List Cond := u_ws RX6 TX6 6
theorem nmX6 : ∀ a, a < 6 → ∀ b, b < 6 → a ≠ b → (TX6 a).2.1 ≠ (TX6 b).2.1 := by decide +kernel
theorem tyX6_ok : ∀ k, k < 6 → parseFieldDescriptor (TX6 k).2.2.1 = some (tyX6 k) := by decide +kernel
abbrev cX6_init : ByteArray := prog_8_method_1_code
def yX6_init : MethodName := ⟨RX6, "<init>", "()V"⟩
abbrev cX6_putFour : ByteArray := prog_8_method_2_code
def yX6_putFour : MethodName := ⟨RX6, "putFour", "(I)V"⟩
abbrev cX6_putByte : ByteArray := prog_8_method_3_code
def yX6_putByte : MethodName := ⟨RX6, "putByte", "(I)V"⟩
abbrev cX6_faultReading : ByteArray := prog_8_method_4_code
def yX6_faultReading : MethodName := ⟨RX6, "faultReading", "(LTankChain$Custom;I)I"⟩
abbrev cX6_readStatement : ByteArray := prog_8_method_5_code
def yX6_readStatement : MethodName := ⟨RX6, "readStatement", "(LTankChain$Custom;)Z"⟩
abbrev cX6_readFirst : ByteArray := prog_8_method_6_code
def yX6_readFirst : MethodName := ⟨RX6, "readFirst", "(LTankChain$Custom;)Z"⟩
abbrev cX6_isWord : ByteArray := prog_8_method_7_code
def yX6_isWord : MethodName := ⟨RX6, "isWord", "(Ljava/lang/String;)Z"⟩
abbrev cX6_numberHere : ByteArray := prog_8_method_8_code
def yX6_numberHere : MethodName := ⟨RX6, "numberHere", "()I"⟩
abbrev cX6_nextToken : ByteArray := prog_8_method_9_code
def yX6_nextToken : MethodName := ⟨RX6, "nextToken", "()V"⟩
abbrev cX6_byteAt : ByteArray := prog_8_method_10_code
def yX6_byteAt : MethodName := ⟨RX6, "byteAt", "(I)I"⟩
abbrev cX6_isBlank : ByteArray := prog_8_method_11_code
def yX6_isBlank : MethodName := ⟨RX6, "isBlank", "(I)Z"⟩
abbrev cX6_isLetter : ByteArray := prog_8_method_12_code
def yX6_isLetter : MethodName := ⟨RX6, "isLetter", "(I)Z"⟩
abbrev cX6_isDigit : ByteArray := prog_8_method_13_code
def yX6_isDigit : MethodName := ⟨RX6, "isDigit", "(I)Z"⟩
def RX7 : String := "TankChain"
def TX7 : u_T := fun k => match k with
  | 0 => ("TankChain", "tanks", "[LTankChain$Tank;", true)
  | 1 => ("TankChain", "fields", "[LTankChain$Field;", true)
  | 2 => ("TankChain", "tape", "LTankChain$Tape;", true)
  | 3 => ("TankChain", "inForce", "LTankChain$Custom;", true)
  | 4 => ("TankChain", "draft", "LTankChain$Custom;", true)
  | 5 => ("TankChain", "flow", "LTankChain$Flow;", true)
  | 6 => ("TankChain", "ever", "LTankChain$Sums;", true)
  | 7 => ("TankChain", "fieldsThere", "I", false)
  | 8 => ("TankChain", "daysGone", "I", false)
  | 9 => ("TankChain", "lastRain", "I", false)
  | 10 => ("TankChain", "waterTold", "I", false)
  | 11 => ("TankChain", "faultPlace", "I", false)
  | 12 => ("TankChain", "breachDay", "I", false)
  | 13 => ("TankChain", "breachFirst", "I", false)
  | _ => ("TankChain", "breachTanks", "I", false)
def tyX7 : Nat → FieldType := fun k => match k with
  | 0 => .array (.object "TankChain$Tank")
  | 1 => .array (.object "TankChain$Field")
  | 2 => .object "TankChain$Tape"
  | 3 => .object "TankChain$Custom"
  | 4 => .object "TankChain$Custom"
  | 5 => .object "TankChain$Flow"
  | 6 => .object "TankChain$Sums"
  | 7 => .int
  | 8 => .int
  | 9 => .int
  | 10 => .int
  | 11 => .int
  | 12 => .int
  | 13 => .int
  | _ => .int
abbrev wsX70 : List Cond := u_ws RX7 TX7 15
theorem nmX7 : ∀ a, a < 15 → ∀ b, b < 15 → a ≠ b → (TX7 a).2.1 ≠ (TX7 b).2.1 := by decide +kernel
theorem tyX7_ok : ∀ k, k < 15 → parseFieldDescriptor (TX7 k).2.2.1 = some (tyX7 k) := by decide +kernel
abbrev cX7_init : ByteArray := prog_1_method_1_code
def yX7_init : MethodName := ⟨RX7, "<init>", "(I)V"⟩
abbrev cX7_tank : ByteArray := prog_1_method_2_code
def yX7_tank : MethodName := ⟨RX7, "tank", "(IIII)Z"⟩
abbrev cX7_water : ByteArray := prog_1_method_3_code
def yX7_water : MethodName := ⟨RX7, "water", "(II)Z"⟩
abbrev cX7_field : ByteArray := prog_1_method_4_code
def yX7_field : MethodName := ⟨RX7, "field", "(IIIIZ)I"⟩
abbrev cX7_open : ByteArray := prog_1_method_5_code
def yX7_open : MethodName := ⟨RX7, "open", "(II)Z"⟩
abbrev cX7_mend : ByteArray := prog_1_method_6_code
def yX7_mend : MethodName := ⟨RX7, "mend", "(II)Z"⟩
abbrev cX7_dredge : ByteArray := prog_1_method_7_code
def yX7_dredge : MethodName := ⟨RX7, "dredge", "(II)I"⟩
abbrev cX7_feed : ByteArray := prog_1_method_8_code
def yX7_feed : MethodName := ⟨RX7, "feed", "(IIIII)I"⟩
abbrev cX7_custom : ByteArray := prog_1_method_9_code
def yX7_custom : MethodName := ⟨RX7, "custom", "(I)I"⟩
abbrev cX7_fault : ByteArray := prog_1_method_10_code
def yX7_fault : MethodName := ⟨RX7, "fault", "()I"⟩
abbrev cX7_day : ByteArray := prog_1_method_11_code
def yX7_day : MethodName := ⟨RX7, "day", "(I)I"⟩
abbrev cX7_told : ByteArray := prog_1_method_12_code
def yX7_told : MethodName := ⟨RX7, "told", "(II)I"⟩
abbrev cX7_fieldOf : ByteArray := prog_1_method_13_code
def yX7_fieldOf : MethodName := ⟨RX7, "fieldOf", "(II)I"⟩
abbrev cX7_order : ByteArray := prog_1_method_14_code
def yX7_order : MethodName := ⟨RX7, "order", "(II)I"⟩
abbrev cX7_owner : ByteArray := prog_1_method_15_code
def yX7_owner : MethodName := ⟨RX7, "owner", "(I)I"⟩
abbrev cX7_tried : ByteArray := prog_1_method_16_code
def yX7_tried : MethodName := ⟨RX7, "tried", "(III)I"⟩
abbrev cX7_lost : ByteArray := prog_1_method_17_code
def yX7_lost : MethodName := ⟨RX7, "lost", "(IIII)I"⟩
abbrev cX7_most : ByteArray := prog_1_method_18_code
def yX7_most : MethodName := ⟨RX7, "most", "(IIIII)I"⟩
abbrev cX7_breach : ByteArray := prog_1_method_19_code
def yX7_breach : MethodName := ⟨RX7, "breach", "(I)I"⟩
abbrev cX7_count : ByteArray := prog_1_method_20_code
def yX7_count : MethodName := ⟨RX7, "count", "(I)I"⟩
abbrev cX7_isWithin : ByteArray := prog_1_method_21_code
def yX7_isWithin : MethodName := ⟨RX7, "isWithin", "(III)Z"⟩
abbrev cX7_asNumber : ByteArray := prog_1_method_22_code
def yX7_asNumber : MethodName := ⟨RX7, "asNumber", "(Z)I"⟩
abbrev cX7_mayTry : ByteArray := prog_1_method_23_code
def yX7_mayTry : MethodName := ⟨RX7, "mayTry", "(II)Z"⟩
abbrev cX7_tankAt : ByteArray := prog_1_method_24_code
def yX7_tankAt : MethodName := ⟨RX7, "tankAt", "(I)LTankChain$Tank;"⟩
abbrev cX7_fieldAt : ByteArray := prog_1_method_25_code
def yX7_fieldAt : MethodName := ⟨RX7, "fieldAt", "(I)LTankChain$Field;"⟩
abbrev cX7_allWater : ByteArray := prog_1_method_26_code
def yX7_allWater : MethodName := ⟨RX7, "allWater", "()I"⟩
abbrev cX7_orderAnew : ByteArray := prog_1_method_27_code
def yX7_orderAnew : MethodName := ⟨RX7, "orderAnew", "()V"⟩
abbrev cX7_addSilt : ByteArray := prog_1_method_28_code
def yX7_addSilt : MethodName := ⟨RX7, "addSilt", "()V"⟩
abbrev cX7_keepTanks : ByteArray := prog_1_method_29_code
def yX7_keepTanks : MethodName := ⟨RX7, "keepTanks", "()V"⟩
abbrev cX7_keepFields : ByteArray := prog_1_method_30_code
def yX7_keepFields : MethodName := ⟨RX7, "keepFields", "()V"⟩
abbrev cX7_waterTried : ByteArray := prog_1_method_31_code
def yX7_waterTried : MethodName := ⟨RX7, "waterTried", "(LTankChain$Tank;LTankChain$Tank;II)I"⟩
abbrev cX7_areasFedBy : ByteArray := prog_1_method_32_code
def yX7_areasFedBy : MethodName := ⟨RX7, "areasFedBy", "(IIIII)I"⟩
abbrev cX7_openingIn : ByteArray := prog_1_method_33_code
def yX7_openingIn : MethodName := ⟨RX7, "openingIn", "(II)I"⟩
def RX8 : String := "TankChainModel"
def TX8 : u_T := fun k => match k with
  | 0 => ("TankChainModel", "tanks", "I", true)
  | 1 => ("TankChainModel", "day", "I", false)
  | 2 => ("TankChainModel", "rain", "I", false)
  | 3 => ("TankChainModel", "fields", "I", false)
  | 4 => ("TankChainModel", "catches", "[I", true)
  | 5 => ("TankChainModel", "size", "[I", true)
  | 6 => ("TankChainModel", "bank", "[I", true)
  | 7 => ("TankChainModel", "water", "[I", true)
  | 8 => ("TankChainModel", "opening", "[I", true)
  | 9 => ("TankChainModel", "silt", "[I", true)
  | 10 => ("TankChainModel", "taken", "[I", true)
  | 11 => ("TankChainModel", "spilt", "[I", true)
  | 12 => ("TankChainModel", "breachedOn", "[I", true)
  | 13 => ("TankChainModel", "isBreached", "[Z", true)
  | 14 => ("TankChainModel", "fieldTank", "[I", true)
  | 15 => ("TankChainModel", "far", "[I", true)
  | 16 => ("TankChainModel", "area", "[I", true)
  | 17 => ("TankChainModel", "owner", "[I", true)
  | 18 => ("TankChainModel", "daysFed", "[I", true)
  | 19 => ("TankChainModel", "allGot", "[I", true)
  | 20 => ("TankChainModel", "lastGot", "[I", true)
  | 21 => ("TankChainModel", "isTemple", "[Z", true)
  | 22 => ("TankChainModel", "owners", "[I", true)
  | 23 => ("TankChainModel", "out", "I", false)
  | 24 => ("TankChainModel", "seeped", "I", false)
  | 25 => ("TankChainModel", "kept", "I", false)
  | 26 => ("TankChainModel", "rained", "I", false)
  | 27 => ("TankChainModel", "toldMore", "I", false)
  | 28 => ("TankChainModel", "firstBreach", "I", false)
  | 29 => ("TankChainModel", "breaches", "I", false)
  | 30 => ("TankChainModel", "breachDay", "I", false)
  | 31 => ("TankChainModel", "tape", "[B", true)
  | 32 => ("TankChainModel", "text", "[B", true)
  | 33 => ("TankChainModel", "taped", "I", false)
  | 34 => ("TankChainModel", "place", "I", false)
  | 35 => ("TankChainModel", "end", "I", false)
  | 36 => ("TankChainModel", "fault", "I", false)
  | 37 => ("TankChainModel", "told", "[I", true)
  | 38 => ("TankChainModel", "hasCustom", "Z", false)
  | 39 => ("TankChainModel", "wordEnd", "I", false)
  | 40 => ("TankChainModel", "number", "I", false)
  | 41 => ("TankChainModel", "row", "[I", true)
  | 42 => ("TankChainModel", "got", "[I", true)
  | 43 => ("TankChainModel", "hasMore", "[Z", true)
  | 44 => ("TankChainModel", "triedWater", "[I", true)
  | 45 => ("TankChainModel", "triedOpening", "[I", true)
  | _ => ("TankChainModel", "triedBreach", "[Z", true)
def tyX8 : Nat → FieldType := fun k => match k with
  | 0 => .int
  | 1 => .int
  | 2 => .int
  | 3 => .int
  | 4 => .array .int
  | 5 => .array .int
  | 6 => .array .int
  | 7 => .array .int
  | 8 => .array .int
  | 9 => .array .int
  | 10 => .array .int
  | 11 => .array .int
  | 12 => .array .int
  | 13 => .array .boolean
  | 14 => .array .int
  | 15 => .array .int
  | 16 => .array .int
  | 17 => .array .int
  | 18 => .array .int
  | 19 => .array .int
  | 20 => .array .int
  | 21 => .array .boolean
  | 22 => .array .int
  | 23 => .int
  | 24 => .int
  | 25 => .int
  | 26 => .int
  | 27 => .int
  | 28 => .int
  | 29 => .int
  | 30 => .int
  | 31 => .array .byte
  | 32 => .array .byte
  | 33 => .int
  | 34 => .int
  | 35 => .int
  | 36 => .int
  | 37 => .array .int
  | 38 => .boolean
  | 39 => .int
  | 40 => .int
  | 41 => .array .int
  | 42 => .array .int
  | 43 => .array .boolean
  | 44 => .array .int
  | 45 => .array .int
  | _ => .array .boolean
abbrev wsX80 : List Cond := u_ws RX8 TX8 47
theorem nmX8 : ∀ a, a < 47 → ∀ b, b < 47 → a ≠ b → (TX8 a).2.1 ≠ (TX8 b).2.1 := by decide +kernel
theorem tyX8_ok : ∀ k, k < 47 → parseFieldDescriptor (TX8 k).2.2.1 = some (tyX8 k) := by decide +kernel
abbrev cX8_init : ByteArray := prog_10_method_1_code
def yX8_init : MethodName := ⟨RX8, "<init>", "(I)V"⟩
abbrev cX8_isIn : ByteArray := prog_10_method_2_code
def yX8_isIn : MethodName := ⟨RX8, "isIn", "(III)Z"⟩
abbrev cX8_one : ByteArray := prog_10_method_3_code
def yX8_one : MethodName := ⟨RX8, "one", "(Z)I"⟩
abbrev cX8_isTank : ByteArray := prog_10_method_4_code
def yX8_isTank : MethodName := ⟨RX8, "isTank", "(I)Z"⟩
abbrev cX8_tank : ByteArray := prog_10_method_5_code
def yX8_tank : MethodName := ⟨RX8, "tank", "(IIII)Z"⟩
abbrev cX8_room : ByteArray := prog_10_method_6_code
def yX8_room : MethodName := ⟨RX8, "room", "(IZ)I"⟩
abbrev cX8_water : ByteArray := prog_10_method_7_code
def yX8_water : MethodName := ⟨RX8, "water", "(II)Z"⟩
abbrev cX8_field : ByteArray := prog_10_method_8_code
def yX8_field : MethodName := ⟨RX8, "field", "(IIIIZ)I"⟩
abbrev cX8_open : ByteArray := prog_10_method_9_code
def yX8_open : MethodName := ⟨RX8, "open", "(II)Z"⟩
abbrev cX8_mend : ByteArray := prog_10_method_10_code
def yX8_mend : MethodName := ⟨RX8, "mend", "(II)Z"⟩
abbrev cX8_dredge : ByteArray := prog_10_method_11_code
def yX8_dredge : MethodName := ⟨RX8, "dredge", "(II)I"⟩
abbrev cX8_custom : ByteArray := prog_10_method_12_code
def yX8_custom : MethodName := ⟨RX8, "custom", "(II)I"⟩
abbrev cX8_feed : ByteArray := prog_10_method_13_code
def yX8_feed : MethodName := ⟨RX8, "feed", "(IIIII)I"⟩
abbrev cX8_four : ByteArray := prog_10_method_14_code
def yX8_four : MethodName := ⟨RX8, "four", "(I)V"⟩
abbrev cX8_blanks : ByteArray := prog_10_method_15_code
def yX8_blanks : MethodName := ⟨RX8, "blanks", "()V"⟩
abbrev cX8_word : ByteArray := prog_10_method_16_code
def yX8_word : MethodName := ⟨RX8, "word", "()J"⟩
abbrev cX8_takes : ByteArray := prog_10_method_17_code
def yX8_takes : MethodName := ⟨RX8, "takes", "(J)Z"⟩
abbrev cX8_takesNumber : ByteArray := prog_10_method_18_code
def yX8_takesNumber : MethodName := ⟨RX8, "takesNumber", "()Z"⟩
abbrev cX8_statement : ByteArray := prog_10_method_19_code
def yX8_statement : MethodName := ⟨RX8, "statement", "()Z"⟩
abbrev cX8_custom_ : ByteArray := prog_10_method_20_code
def yX8_custom_ : MethodName := ⟨RX8, "custom", "(I)I"⟩
abbrev cX8_fault : ByteArray := prog_10_method_21_code
def yX8_fault : MethodName := ⟨RX8, "fault", "()I"⟩
abbrev cX8_isAhead : ByteArray := prog_10_method_22_code
def yX8_isAhead : MethodName := ⟨RX8, "isAhead", "(II)Z"⟩
abbrev cX8_ordered : ByteArray := prog_10_method_23_code
def yX8_ordered : MethodName := ⟨RX8, "ordered", "(I)I"⟩
abbrev cX8_order : ByteArray := prog_10_method_24_code
def yX8_order : MethodName := ⟨RX8, "order", "(II)I"⟩
abbrev cX8_isBad : ByteArray := prog_10_method_25_code
def yX8_isBad : MethodName := ⟨RX8, "isBad", "(II)Z"⟩
abbrev cX8_gives : ByteArray := prog_10_method_26_code
def yX8_gives : MethodName := ⟨RX8, "gives", "(III)I"⟩
abbrev cX8_flows : ByteArray := prog_10_method_27_code
def yX8_flows : MethodName := ⟨RX8, "flows", "([I[Z[IIZ)I"⟩
abbrev cX8_day : ByteArray := prog_10_method_28_code
def yX8_day : MethodName := ⟨RX8, "day", "(I)I"⟩
abbrev cX8_told : ByteArray := prog_10_method_29_code
def yX8_told : MethodName := ⟨RX8, "told", "(II)I"⟩
abbrev cX8_fieldOf : ByteArray := prog_10_method_30_code
def yX8_fieldOf : MethodName := ⟨RX8, "fieldOf", "(II)I"⟩
abbrev cX8_owner : ByteArray := prog_10_method_31_code
def yX8_owner : MethodName := ⟨RX8, "owner", "(I)I"⟩
abbrev cX8_tries : ByteArray := prog_10_method_32_code
def yX8_tries : MethodName := ⟨RX8, "tries", "(II)I"⟩
abbrev cX8_openings : ByteArray := prog_10_method_33_code
def yX8_openings : MethodName := ⟨RX8, "openings", "()V"⟩
abbrev cX8_isTrial : ByteArray := prog_10_method_34_code
def yX8_isTrial : MethodName := ⟨RX8, "isTrial", "(II)Z"⟩
abbrev cX8_tried : ByteArray := prog_10_method_35_code
def yX8_tried : MethodName := ⟨RX8, "tried", "(III)I"⟩
abbrev cX8_lost : ByteArray := prog_10_method_36_code
def yX8_lost : MethodName := ⟨RX8, "lost", "(IIII)I"⟩
abbrev cX8_most : ByteArray := prog_10_method_37_code
def yX8_most : MethodName := ⟨RX8, "most", "(IIIII)I"⟩
abbrev cX8_breach : ByteArray := prog_10_method_38_code
def yX8_breach : MethodName := ⟨RX8, "breach", "(I)I"⟩
abbrev cX8_count : ByteArray := prog_10_method_39_code
def yX8_count : MethodName := ⟨RX8, "count", "(I)I"⟩
def RJ9 : String := "java/lang/Math"
def TJ9 : u_T := fun k => match k with
  | _ => ("", "", "", false)
def tyJ9 : Nat → FieldType := fun k => match k with
  | _ => .int
abbrev wsJ90 : List Cond := u_ws RJ9 TJ9 0
theorem nmJ9 : ∀ a, a < 0 → ∀ b, b < 0 → a ≠ b → (TJ9 a).2.1 ≠ (TJ9 b).2.1 := by decide +kernel
theorem tyJ9_ok : ∀ k, k < 0 → parseFieldDescriptor (TJ9 k).2.2.1 = some (tyJ9 k) := by decide +kernel
abbrev cJ9_max_7cf53 : ByteArray := prog_11_method_65_code
def yJ9_max_7cf53 : MethodName := ⟨RJ9, "max", "(II)I"⟩
abbrev cJ9_min_7cf53 : ByteArray := prog_11_method_69_code
def yJ9_min_7cf53 : MethodName := ⟨RJ9, "min", "(II)I"⟩
def RJ0 : String := "java/lang/String"
def TJ0 : u_T := fun k => match k with
  | _ => ("", "", "", false)
def tyJ0 : Nat → FieldType := fun k => match k with
  | _ => .int
abbrev wsJ00 : List Cond := u_ws RJ0 TJ0 0
theorem nmJ0 : ∀ a, a < 0 → ∀ b, b < 0 → a ≠ b → (TJ0 a).2.1 ≠ (TJ0 b).2.1 := by decide +kernel
theorem tyJ0_ok : ∀ k, k < 0 → parseFieldDescriptor (TJ0 k).2.2.1 = some (tyJ0 k) := by decide +kernel
abbrev cJ0_length_8abf5 : ByteArray := prog_12_method_54_code
def yJ0_length_8abf5 : MethodName := ⟨RJ0, "length", "()I"⟩
abbrev cJ0_charAt_5068e : ByteArray := prog_12_method_56_code
def yJ0_charAt_5068e : MethodName := ⟨RJ0, "charAt", "(I)C"⟩
abbrev cJ0_coder_7d493 : ByteArray := prog_12_method_152_code
def yJ0_coder_7d493 : MethodName := ⟨RJ0, "coder", "()B"⟩
abbrev cJ0_isLatin1_aae02 : ByteArray := prog_12_method_154_code
def yJ0_isLatin1_aae02 : MethodName := ⟨RJ0, "isLatin1", "()Z"⟩
abbrev cJ0_checkIndex_df160 : ByteArray := prog_12_method_155_code
def yJ0_checkIndex_df160 : MethodName := ⟨RJ0, "checkIndex", "(II)V"⟩
def RJ1 : String := "java/lang/StringLatin1"
def TJ1 : u_T := fun k => match k with
  | _ => ("", "", "", false)
def tyJ1 : Nat → FieldType := fun k => match k with
  | _ => .int
abbrev wsJ10 : List Cond := u_ws RJ1 TJ1 0
theorem nmJ1 : ∀ a, a < 0 → ∀ b, b < 0 → a ≠ b → (TJ1 a).2.1 ≠ (TJ1 b).2.1 := by decide +kernel
theorem tyJ1_ok : ∀ k, k < 0 → parseFieldDescriptor (TJ1 k).2.2.1 = some (tyJ1 k) := by decide +kernel
abbrev cJ1_charAt_3b067 : ByteArray := prog_13_method_2_code
def yJ1_charAt_3b067 : MethodName := ⟨RJ1, "charAt", "([BI)C"⟩
def RJ2 : String := "java/lang/StringUTF16"
def TJ2 : u_T := fun k => match k with
  | _ => ("", "", "", false)
def tyJ2 : Nat → FieldType := fun k => match k with
  | _ => .int
abbrev wsJ20 : List Cond := u_ws RJ2 TJ2 0
theorem nmJ2 : ∀ a, a < 0 → ∀ b, b < 0 → a ≠ b → (TJ2 a).2.1 ≠ (TJ2 b).2.1 := by decide +kernel
theorem tyJ2_ok : ∀ k, k < 0 → parseFieldDescriptor (TJ2 k).2.2.1 = some (tyJ2 k) := by decide +kernel
abbrev cJ2_getChar_3b067 : ByteArray := prog_14_method_5_code
def yJ2_getChar_3b067 : MethodName := ⟨RJ2, "getChar", "([BI)C"⟩
abbrev cJ2_length_9d52b : ByteArray := prog_14_method_6_code
def yJ2_length_9d52b : MethodName := ⟨RJ2, "length", "([B)I"⟩
abbrev cJ2_charAt_3b067 : ByteArray := prog_14_method_83_code
def yJ2_charAt_3b067 : MethodName := ⟨RJ2, "charAt", "([BI)C"⟩
abbrev cJ2_checkIndex_2214a : ByteArray := prog_14_method_91_code
def yJ2_checkIndex_2214a : MethodName := ⟨RJ2, "checkIndex", "(I[B)V"⟩
def RJ3 : String := "jdk/internal/util/Preconditions"
def TJ3 : u_T := fun k => match k with
  | _ => ("", "", "", false)
def tyJ3 : Nat → FieldType := fun k => match k with
  | _ => .int
abbrev wsJ30 : List Cond := u_ws RJ3 TJ3 0
theorem nmJ3 : ∀ a, a < 0 → ∀ b, b < 0 → a ≠ b → (TJ3 a).2.1 ≠ (TJ3 b).2.1 := by decide +kernel
theorem tyJ3_ok : ∀ k, k < 0 → parseFieldDescriptor (TJ3 k).2.2.1 = some (tyJ3 k) := by decide +kernel
abbrev cJ3_checkIndex_8e157 : ByteArray := prog_15_method_11_code
def yJ3_checkIndex_8e157 : MethodName := ⟨RJ3, "checkIndex", "(IILjava/util/function/BiFunction;)I"⟩
def RL : String := "TankChainLaw"
abbrev cL_cell : ByteArray := method_2_code
def yL_cell : MethodName := ⟨RL, "cell", "([II)I"⟩
abbrev cL_law : ByteArray := code
def yL_law : MethodName := ⟨RL, "law", "([I)Z"⟩
def wsX0_init : List Cond := .code yX0_init cX0_init 1 none :: ([.methodLink RX0 3 objectInit, .instanceMethod objectInit, .code objectInit ⟨#[0xb1]⟩ 1 none, .arrayClass .int, .fieldLink RX0 9 "TankChain$Custom" "firsts" "[I", .fieldLink RX0 15 "TankChain$Custom" "firstsThere" "I", .fieldLink RX0 19 "TankChain$Custom" "near" "I", .fieldLink RX0 22 "TankChain$Custom" "hold" "I", .fieldLink RX0 25 "TankChain$Custom" "fair" "Z", .fieldLink RX0 29 "TankChain$Custom" "statements" "I"] ++ wsX00)
def wsX0_clear : List Cond := .code yX0_clear cX0_clear 1 none :: ([.fieldLink RX0 15 "TankChain$Custom" "firstsThere" "I", .fieldLink RX0 19 "TankChain$Custom" "near" "I", .fieldLink RX0 22 "TankChain$Custom" "hold" "I", .fieldLink RX0 25 "TankChain$Custom" "fair" "Z", .fieldLink RX0 29 "TankChain$Custom" "statements" "I"] ++ wsX00)
def wsX0_addFirst : List Cond := .code yX0_addFirst cX0_addFirst 2 none :: ([.fieldLink RX0 15 "TankChain$Custom" "firstsThere" "I", .fieldLink RX0 9 "TankChain$Custom" "firsts" "[I"] ++ wsX00)
def wsX0_becomeAs : List Cond := .code yX0_becomeAs cX0_becomeAs 3 none :: ([.fieldLink RX0 15 "TankChain$Custom" "firstsThere" "I", .fieldLink RX0 9 "TankChain$Custom" "firsts" "[I", .fieldLink RX0 19 "TankChain$Custom" "near" "I", .fieldLink RX0 22 "TankChain$Custom" "hold" "I", .fieldLink RX0 25 "TankChain$Custom" "fair" "Z", .fieldLink RX0 29 "TankChain$Custom" "statements" "I", .methodLink RX0 32 yX0_clear, .instanceMethod yX0_clear, .selects RX0 yX0_clear yX0_clear, .initialized RX0, .code yX0_clear cX0_clear 1 none, .methodLink RX0 35 yX0_addFirst, .instanceMethod yX0_addFirst, .selects RX0 yX0_addFirst yX0_addFirst, .code yX0_addFirst cX0_addFirst 2 none] ++ wsX00)
def wsX0_rank : List Cond := .code yX0_rank cX0_rank 2 (some .int) :: ([.fieldLink RX0 48 "TankChain$Field" "temple" "Z", .fieldLink RX0 51 "TankChain$Field" "area" "I", .fieldLink RX0 54 "TankChain$Field" "far" "I"] ++ wsX10)
def wsX0_isAhead : List Cond := .code yX0_isAhead cX0_isAhead 5 (some .boolean) :: ([.fieldLink RX0 15 "TankChain$Custom" "firstsThere" "I", .fieldLink RX0 9 "TankChain$Custom" "firsts" "[I", .fieldLink RX0 43 "TankChain$Field" "number" "I", .methodLink RX0 39 yX0_rank, .static yX0_rank, .initialized RX0, .code yX0_rank cX0_rank 2 (some .int), .fieldLink RX0 48 "TankChain$Field" "temple" "Z", .fieldLink RX0 51 "TankChain$Field" "area" "I", .fieldLink RX0 54 "TankChain$Field" "far" "I"] ++ wsX00 ++ wsX10)
def wsX1_init : List Cond := .code yX1_init cX1_init 7 none :: ([.methodLink RX1 1 objectInit, .instanceMethod objectInit, .code objectInit ⟨#[0xb1]⟩ 1 none, .fieldLink RX1 7 "TankChain$Field" "next" "LTankChain$Field;", .fieldLink RX1 13 "TankChain$Field" "share" "I", .fieldLink RX1 17 "TankChain$Field" "remainder" "I", .fieldLink RX1 20 "TankChain$Field" "daysFed" "I", .fieldLink RX1 23 "TankChain$Field" "gotEver" "I", .fieldLink RX1 26 "TankChain$Field" "gotLately" "I", .fieldLink RX1 29 "TankChain$Field" "number" "I", .fieldLink RX1 32 "TankChain$Field" "tank" "I", .fieldLink RX1 35 "TankChain$Field" "far" "I", .fieldLink RX1 38 "TankChain$Field" "area" "I", .fieldLink RX1 41 "TankChain$Field" "owner" "I", .fieldLink RX1 44 "TankChain$Field" "temple" "Z"] ++ wsX10)
def wsX1_isFed : List Cond := .code yX1_isFed cX1_isFed 1 (some .boolean) :: ([.fieldLink RX1 13 "TankChain$Field" "share" "I", .fieldLink RX1 38 "TankChain$Field" "area" "I"] ++ wsX10)
def wsX1_keepShare : List Cond := .code yX1_keepShare cX1_keepShare 1 none :: ([.fieldLink RX1 13 "TankChain$Field" "share" "I", .fieldLink RX1 26 "TankChain$Field" "gotLately" "I", .fieldLink RX1 23 "TankChain$Field" "gotEver" "I", .fieldLink RX1 20 "TankChain$Field" "daysFed" "I", .methodLink RX1 48 yX1_isFed, .instanceMethod yX1_isFed, .selects RX1 yX1_isFed yX1_isFed, .initialized RX1, .code yX1_isFed cX1_isFed 1 (some .boolean), .fieldLink RX1 38 "TankChain$Field" "area" "I"] ++ wsX10)
def wsX4_init : List Cond := .code yX4_init cX4_init 1 none :: ([.methodLink RX4 1 objectInit, .instanceMethod objectInit, .code objectInit ⟨#[0xb1]⟩ 1 none, .fieldLink RX4 7 "TankChain$Sums" "rained" "I", .fieldLink RX4 13 "TankChain$Sums" "seeped" "I", .fieldLink RX4 16 "TankChain$Sums" "kept" "I", .fieldLink RX4 19 "TankChain$Sums" "out" "I"] ++ wsX40)
def wsX2_init : List Cond := .code yX2_init cX2_init 3 none :: ([.methodLink RX2 3 objectInit, .instanceMethod objectInit, .code objectInit ⟨#[0xb1]⟩ 1 none, .classLink RX2 9 RX4, .instantiable RX4 4, .initialized RX4, .fieldLink RX2 12 "TankChain$Flow" "sums" "LTankChain$Sums;", .fieldLink RX2 18 "TankChain$Flow" "areasFed" "I", .fieldLink RX2 22 "TankChain$Flow" "head" "LTankChain$Tank;", .fieldLink RX2 26 "TankChain$Flow" "custom" "LTankChain$Custom;", .instanceMethod yX4_init, .code yX4_init cX4_init 1 none, .methodLink RX4 1 objectInit, .fieldLink RX4 7 "TankChain$Sums" "rained" "I", .fieldLink RX4 13 "TankChain$Sums" "seeped" "I", .fieldLink RX4 16 "TankChain$Sums" "kept" "I", .fieldLink RX4 19 "TankChain$Sums" "out" "I"] ++ wsX40 ++ wsX20)
def wsX3_becomeAs : List Cond := .code yX3_becomeAs cX3_becomeAs 2 none :: ([.fieldLink RX3 7 "TankChain$Pool" "water" "I", .fieldLink RX3 13 "TankChain$Pool" "opening" "I", .fieldLink RX3 16 "TankChain$Pool" "breached" "Z", .fieldLink RX3 20 "TankChain$Pool" "taken" "I", .fieldLink RX3 23 "TankChain$Pool" "spilt" "I"] ++ wsX30)
def wsX2_startFromNow : List Cond := .code yX2_startFromNow cX2_startFromNow 2 none :: ([.fieldLink RX2 22 "TankChain$Flow" "head" "LTankChain$Tank;", .fieldLink RX2 30 "TankChain$Tank" "after" "LTankChain$Pool;", .fieldLink RX2 36 "TankChain$Tank" "now" "LTankChain$Pool;", .fieldLink RX2 45 "TankChain$Tank" "below" "LTankChain$Tank;", .methodLink RX2 39 yX3_becomeAs, .instanceMethod yX3_becomeAs, .selects RX3 yX3_becomeAs yX3_becomeAs, .initialized RX3, .code yX3_becomeAs cX3_becomeAs 2 none, .fieldLink RX3 7 "TankChain$Pool" "water" "I", .fieldLink RX3 13 "TankChain$Pool" "opening" "I", .fieldLink RX3 16 "TankChain$Pool" "breached" "Z", .fieldLink RX3 20 "TankChain$Pool" "taken" "I", .fieldLink RX3 23 "TankChain$Pool" "spilt" "I"] ++ wsX20 ++ wsX50 ++ wsX30)
def wsX4_clear : List Cond := .code yX4_clear cX4_clear 1 none :: ([.fieldLink RX4 7 "TankChain$Sums" "rained" "I", .fieldLink RX4 13 "TankChain$Sums" "seeped" "I", .fieldLink RX4 16 "TankChain$Sums" "kept" "I", .fieldLink RX4 19 "TankChain$Sums" "out" "I"] ++ wsX40)
def wsX5_isBadYearWith : List Cond := .code yX5_isBadYearWith cX5_isBadYearWith 2 (some .boolean) :: ([.fieldLink RX5 25 "TankChain$Tank" "size" "I"] ++ wsX50)
def wsX2_areasWithin : List Cond := .code yX2_areasWithin cX2_areasWithin 4 (some .int) :: ([.fieldLink RX2 135 "TankChain$Tank" "firstField" "LTankChain$Field;", .fieldLink RX2 154 "TankChain$Field" "far" "I", .fieldLink RX2 148 "TankChain$Field" "area" "I", .fieldLink RX2 151 "TankChain$Field" "next" "LTankChain$Field;"] ++ wsX50 ++ wsX10)
def wsX2_giveOneMore : List Cond := .code yX2_giveOneMore cX2_giveOneMore 4 none :: ([.fieldLink RX2 135 "TankChain$Tank" "firstField" "LTankChain$Field;", .fieldLink RX2 157 "TankChain$Field" "remainder" "I", .fieldLink RX2 151 "TankChain$Field" "next" "LTankChain$Field;", .fieldLink RX2 139 "TankChain$Field" "share" "I"] ++ wsX50 ++ wsX10)
def wsX2_shareFairly : List Cond := .code yX2_shareFairly cX2_shareFairly 7 none :: ([.fieldLink RX2 135 "TankChain$Tank" "firstField" "LTankChain$Field;", .fieldLink RX2 154 "TankChain$Field" "far" "I", .fieldLink RX2 148 "TankChain$Field" "area" "I", .fieldLink RX2 139 "TankChain$Field" "share" "I", .fieldLink RX2 157 "TankChain$Field" "remainder" "I", .fieldLink RX2 151 "TankChain$Field" "next" "LTankChain$Field;", .methodLink RX2 160 yX2_giveOneMore, .static yX2_giveOneMore, .initialized RX2, .code yX2_giveOneMore cX2_giveOneMore 4 none] ++ wsX50 ++ wsX10)
def wsX2_shareInOrder : List Cond := .code yX2_shareInOrder cX2_shareInOrder 5 none :: ([.fieldLink RX2 135 "TankChain$Tank" "firstField" "LTankChain$Field;", .fieldLink RX2 154 "TankChain$Field" "far" "I", .fieldLink RX2 148 "TankChain$Field" "area" "I", .fieldLink RX2 139 "TankChain$Field" "share" "I", .fieldLink RX2 151 "TankChain$Field" "next" "LTankChain$Field;"] ++ wsX50 ++ wsX10)
def wsX2_takenByFields_r1 : List Cond := [Cond.fieldLink RX2 100 "TankChain$Tank" "size" "I", Cond.fieldLink RX2 26 "TankChain$Flow" "custom" "LTankChain$Custom;", Cond.fieldLink RX2 103 "TankChain$Custom" "hold" "I", Cond.fieldLink RX2 30 "TankChain$Tank" "after" "LTankChain$Pool;", Cond.fieldLink RX2 108 "TankChain$Pool" "opening" "I", Cond.methodLink RX2 76 Lib.Math.max.name, Cond.static Lib.Math.max.name, Cond.initialized "java/lang/Math", Cond.code Lib.Math.max.name Lib.Math.max.code 2 (some .int), Cond.methodLink RX2 111 Lib.Math.min.name, Cond.static Lib.Math.min.name, Cond.code Lib.Math.min.name Lib.Math.min.code 2 (some .int), Cond.fieldLink RX2 118 "TankChain$Custom" "near" "I", Cond.fieldLink RX2 124 "TankChain$Custom" "fair" "Z", Cond.fieldLink RX2 135 "TankChain$Tank" "firstField" "LTankChain$Field;", Cond.fieldLink RX2 139 "TankChain$Field" "share" "I", Cond.fieldLink RX2 18 "TankChain$Flow" "areasFed" "I", Cond.fieldLink RX2 148 "TankChain$Field" "area" "I", Cond.fieldLink RX2 151 "TankChain$Field" "next" "LTankChain$Field;", Cond.methodLink RX2 114 yX5_isBadYearWith, Cond.instanceMethod yX5_isBadYearWith, Cond.selects RX5 yX5_isBadYearWith yX5_isBadYearWith, Cond.initialized RX5, Cond.code yX5_isBadYearWith cX5_isBadYearWith 2 (some .boolean)]
def wsX2_takenByFields_r2 : List Cond := [Cond.fieldLink RX5 25 "TankChain$Tank" "size" "I", Cond.methodLink RX2 121 yX2_areasWithin, Cond.static yX2_areasWithin, Cond.initialized RX2, Cond.code yX2_areasWithin cX2_areasWithin 4 (some .int), Cond.fieldLink RX2 154 "TankChain$Field" "far" "I", Cond.methodLink RX2 127 yX2_shareFairly, Cond.static yX2_shareFairly, Cond.code yX2_shareFairly cX2_shareFairly 7 none, Cond.fieldLink RX2 157 "TankChain$Field" "remainder" "I", Cond.methodLink RX2 160 yX2_giveOneMore, Cond.static yX2_giveOneMore, Cond.code yX2_giveOneMore cX2_giveOneMore 4 none, Cond.methodLink RX2 131 yX2_shareInOrder, Cond.static yX2_shareInOrder, Cond.code yX2_shareInOrder cX2_shareInOrder 5 none, Cond.methodLink RX2 144 yX1_isFed, Cond.instanceMethod yX1_isFed, Cond.selects RX1 yX1_isFed yX1_isFed, Cond.initialized RX1, Cond.code yX1_isFed cX1_isFed 1 (some .boolean), Cond.fieldLink RX1 13 "TankChain$Field" "share" "I", Cond.fieldLink RX1 38 "TankChain$Field" "area" "I"]
def wsX2_takenByFields : List Cond := .code yX2_takenByFields cX2_takenByFields 9 (some .int) :: ((wsX2_takenByFields_r1 ++ wsX2_takenByFields_r2) ++ wsX50 ++ wsX20 ++ wsX00 ++ wsX30 ++ wsX10)
def wsX5_roomIf : List Cond := .code yX5_roomIf cX5_roomIf 2 (some .int) :: ([.fieldLink RX5 25 "TankChain$Tank" "size" "I", .fieldLink RX5 31 "TankChain$Tank" "silt" "I"] ++ wsX50)
def wsX2_sentDown_r1 : List Cond := [Cond.fieldLink RX2 30 "TankChain$Tank" "after" "LTankChain$Pool;", Cond.fieldLink RX2 61 "TankChain$Pool" "water" "I", Cond.fieldLink RX2 68 "TankChain$Pool" "breached" "Z", Cond.methodLink RX2 76 Lib.Math.max.name, Cond.static Lib.Math.max.name, Cond.initialized "java/lang/Math", Cond.code Lib.Math.max.name Lib.Math.max.code 2 (some .int), Cond.fieldLink RX2 82 "TankChain$Tank" "bank" "I", Cond.fieldLink RX2 85 "TankChain$Pool" "taken" "I", Cond.fieldLink RX2 88 "TankChain$Pool" "spilt" "I", Cond.fieldLink RX2 12 "TankChain$Flow" "sums" "LTankChain$Sums;", Cond.fieldLink RX2 91 "TankChain$Sums" "rained" "I", Cond.fieldLink RX2 94 "TankChain$Sums" "seeped" "I", Cond.fieldLink RX2 97 "TankChain$Sums" "kept" "I", Cond.methodLink RX2 64 yX2_takenByFields, Cond.instanceMethod yX2_takenByFields, Cond.selects RX2 yX2_takenByFields yX2_takenByFields, Cond.initialized RX2, Cond.code yX2_takenByFields cX2_takenByFields 9 (some .int), Cond.fieldLink RX2 100 "TankChain$Tank" "size" "I", Cond.fieldLink RX2 26 "TankChain$Flow" "custom" "LTankChain$Custom;", Cond.fieldLink RX2 103 "TankChain$Custom" "hold" "I", Cond.fieldLink RX2 108 "TankChain$Pool" "opening" "I", Cond.methodLink RX2 111 Lib.Math.min.name]
def wsX2_sentDown_r2 : List Cond := [Cond.static Lib.Math.min.name, Cond.code Lib.Math.min.name Lib.Math.min.code 2 (some .int), Cond.fieldLink RX2 118 "TankChain$Custom" "near" "I", Cond.fieldLink RX2 124 "TankChain$Custom" "fair" "Z", Cond.fieldLink RX2 135 "TankChain$Tank" "firstField" "LTankChain$Field;", Cond.fieldLink RX2 139 "TankChain$Field" "share" "I", Cond.fieldLink RX2 18 "TankChain$Flow" "areasFed" "I", Cond.fieldLink RX2 148 "TankChain$Field" "area" "I", Cond.fieldLink RX2 151 "TankChain$Field" "next" "LTankChain$Field;", Cond.methodLink RX2 114 yX5_isBadYearWith, Cond.instanceMethod yX5_isBadYearWith, Cond.selects RX5 yX5_isBadYearWith yX5_isBadYearWith, Cond.initialized RX5, Cond.code yX5_isBadYearWith cX5_isBadYearWith 2 (some .boolean), Cond.fieldLink RX5 25 "TankChain$Tank" "size" "I", Cond.methodLink RX2 121 yX2_areasWithin, Cond.static yX2_areasWithin, Cond.code yX2_areasWithin cX2_areasWithin 4 (some .int), Cond.fieldLink RX2 154 "TankChain$Field" "far" "I", Cond.methodLink RX2 127 yX2_shareFairly, Cond.static yX2_shareFairly, Cond.code yX2_shareFairly cX2_shareFairly 7 none, Cond.fieldLink RX2 157 "TankChain$Field" "remainder" "I", Cond.methodLink RX2 160 yX2_giveOneMore]
def wsX2_sentDown_r3 : List Cond := [Cond.static yX2_giveOneMore, Cond.code yX2_giveOneMore cX2_giveOneMore 4 none, Cond.methodLink RX2 131 yX2_shareInOrder, Cond.static yX2_shareInOrder, Cond.code yX2_shareInOrder cX2_shareInOrder 5 none, Cond.methodLink RX2 144 yX1_isFed, Cond.instanceMethod yX1_isFed, Cond.selects RX1 yX1_isFed yX1_isFed, Cond.initialized RX1, Cond.code yX1_isFed cX1_isFed 1 (some .boolean), Cond.fieldLink RX1 13 "TankChain$Field" "share" "I", Cond.fieldLink RX1 38 "TankChain$Field" "area" "I", Cond.methodLink RX2 72 yX5_roomIf, Cond.instanceMethod yX5_roomIf, Cond.selects RX5 yX5_roomIf yX5_roomIf, Cond.code yX5_roomIf cX5_roomIf 2 (some .int), Cond.fieldLink RX5 31 "TankChain$Tank" "silt" "I"]
def wsX2_sentDown : List Cond := .code yX2_sentDown cX2_sentDown 10 (some .int) :: ((wsX2_sentDown_r1 ++ (wsX2_sentDown_r2 ++ wsX2_sentDown_r3)) ++ wsX50 ++ wsX30 ++ wsX20 ++ wsX40 ++ wsX00 ++ wsX10)
def wsX2_passDay_r1 : List Cond := [Cond.fieldLink RX2 12 "TankChain$Flow" "sums" "LTankChain$Sums;", Cond.fieldLink RX2 18 "TankChain$Flow" "areasFed" "I", Cond.fieldLink RX2 22 "TankChain$Flow" "head" "LTankChain$Tank;", Cond.fieldLink RX2 51 "TankChain$Tank" "catches" "I", Cond.fieldLink RX2 45 "TankChain$Tank" "below" "LTankChain$Tank;", Cond.fieldLink RX2 58 "TankChain$Sums" "out" "I", Cond.methodLink RX2 48 yX4_clear, Cond.instanceMethod yX4_clear, Cond.selects RX4 yX4_clear yX4_clear, Cond.initialized RX4, Cond.code yX4_clear cX4_clear 1 none, Cond.fieldLink RX4 7 "TankChain$Sums" "rained" "I", Cond.fieldLink RX4 13 "TankChain$Sums" "seeped" "I", Cond.fieldLink RX4 16 "TankChain$Sums" "kept" "I", Cond.fieldLink RX4 19 "TankChain$Sums" "out" "I", Cond.methodLink RX2 54 yX2_sentDown, Cond.instanceMethod yX2_sentDown, Cond.selects RX2 yX2_sentDown yX2_sentDown, Cond.initialized RX2, Cond.code yX2_sentDown cX2_sentDown 10 (some .int), Cond.fieldLink RX2 30 "TankChain$Tank" "after" "LTankChain$Pool;", Cond.fieldLink RX2 61 "TankChain$Pool" "water" "I", Cond.fieldLink RX2 68 "TankChain$Pool" "breached" "Z", Cond.methodLink RX2 76 Lib.Math.max.name]
def wsX2_passDay_r2 : List Cond := [Cond.static Lib.Math.max.name, Cond.initialized "java/lang/Math", Cond.code Lib.Math.max.name Lib.Math.max.code 2 (some .int), Cond.fieldLink RX2 82 "TankChain$Tank" "bank" "I", Cond.fieldLink RX2 85 "TankChain$Pool" "taken" "I", Cond.fieldLink RX2 88 "TankChain$Pool" "spilt" "I", Cond.fieldLink RX2 91 "TankChain$Sums" "rained" "I", Cond.fieldLink RX2 94 "TankChain$Sums" "seeped" "I", Cond.fieldLink RX2 97 "TankChain$Sums" "kept" "I", Cond.methodLink RX2 64 yX2_takenByFields, Cond.instanceMethod yX2_takenByFields, Cond.selects RX2 yX2_takenByFields yX2_takenByFields, Cond.code yX2_takenByFields cX2_takenByFields 9 (some .int), Cond.fieldLink RX2 100 "TankChain$Tank" "size" "I", Cond.fieldLink RX2 26 "TankChain$Flow" "custom" "LTankChain$Custom;", Cond.fieldLink RX2 103 "TankChain$Custom" "hold" "I", Cond.fieldLink RX2 108 "TankChain$Pool" "opening" "I", Cond.methodLink RX2 111 Lib.Math.min.name, Cond.static Lib.Math.min.name, Cond.code Lib.Math.min.name Lib.Math.min.code 2 (some .int), Cond.fieldLink RX2 118 "TankChain$Custom" "near" "I", Cond.fieldLink RX2 124 "TankChain$Custom" "fair" "Z", Cond.fieldLink RX2 135 "TankChain$Tank" "firstField" "LTankChain$Field;", Cond.fieldLink RX2 139 "TankChain$Field" "share" "I"]
def wsX2_passDay_r3 : List Cond := [Cond.fieldLink RX2 148 "TankChain$Field" "area" "I", Cond.fieldLink RX2 151 "TankChain$Field" "next" "LTankChain$Field;", Cond.methodLink RX2 114 yX5_isBadYearWith, Cond.instanceMethod yX5_isBadYearWith, Cond.selects RX5 yX5_isBadYearWith yX5_isBadYearWith, Cond.initialized RX5, Cond.code yX5_isBadYearWith cX5_isBadYearWith 2 (some .boolean), Cond.fieldLink RX5 25 "TankChain$Tank" "size" "I", Cond.methodLink RX2 121 yX2_areasWithin, Cond.static yX2_areasWithin, Cond.code yX2_areasWithin cX2_areasWithin 4 (some .int), Cond.fieldLink RX2 154 "TankChain$Field" "far" "I", Cond.methodLink RX2 127 yX2_shareFairly, Cond.static yX2_shareFairly, Cond.code yX2_shareFairly cX2_shareFairly 7 none, Cond.fieldLink RX2 157 "TankChain$Field" "remainder" "I", Cond.methodLink RX2 160 yX2_giveOneMore, Cond.static yX2_giveOneMore, Cond.code yX2_giveOneMore cX2_giveOneMore 4 none, Cond.methodLink RX2 131 yX2_shareInOrder, Cond.static yX2_shareInOrder, Cond.code yX2_shareInOrder cX2_shareInOrder 5 none, Cond.methodLink RX2 144 yX1_isFed, Cond.instanceMethod yX1_isFed]
def wsX2_passDay_r4 : List Cond := [Cond.selects RX1 yX1_isFed yX1_isFed, Cond.initialized RX1, Cond.code yX1_isFed cX1_isFed 1 (some .boolean), Cond.fieldLink RX1 13 "TankChain$Field" "share" "I", Cond.fieldLink RX1 38 "TankChain$Field" "area" "I", Cond.methodLink RX2 72 yX5_roomIf, Cond.instanceMethod yX5_roomIf, Cond.selects RX5 yX5_roomIf yX5_roomIf, Cond.code yX5_roomIf cX5_roomIf 2 (some .int), Cond.fieldLink RX5 31 "TankChain$Tank" "silt" "I"]
def wsX2_passDay : List Cond := .code yX2_passDay cX2_passDay 4 none :: ((wsX2_passDay_r1 ++ (wsX2_passDay_r2 ++ (wsX2_passDay_r3 ++ wsX2_passDay_r4))) ++ wsX20 ++ wsX50 ++ wsX40 ++ wsX30 ++ wsX00 ++ wsX10)
def wsX3_init : List Cond := .code yX3_init cX3_init 1 none :: ([.methodLink RX3 1 objectInit, .instanceMethod objectInit, .code objectInit ⟨#[0xb1]⟩ 1 none, .fieldLink RX3 7 "TankChain$Pool" "water" "I", .fieldLink RX3 13 "TankChain$Pool" "opening" "I", .fieldLink RX3 16 "TankChain$Pool" "breached" "Z", .fieldLink RX3 20 "TankChain$Pool" "taken" "I", .fieldLink RX3 23 "TankChain$Pool" "spilt" "I"] ++ wsX30)
def wsX4_addAll : List Cond := .code yX4_addAll cX4_addAll 2 none :: ([.fieldLink RX4 7 "TankChain$Sums" "rained" "I", .fieldLink RX4 13 "TankChain$Sums" "seeped" "I", .fieldLink RX4 16 "TankChain$Sums" "kept" "I", .fieldLink RX4 19 "TankChain$Sums" "out" "I"] ++ wsX40)
def wsX5_init : List Cond := .code yX5_init cX5_init 3 none :: ([.methodLink RX5 3 objectInit, .instanceMethod objectInit, .code objectInit ⟨#[0xb1]⟩ 1 none, .classLink RX5 9 RX3, .instantiable RX3 5, .initialized RX3, .fieldLink RX5 12 "TankChain$Tank" "now" "LTankChain$Pool;", .fieldLink RX5 18 "TankChain$Tank" "after" "LTankChain$Pool;", .fieldLink RX5 21 "TankChain$Tank" "catches" "I", .fieldLink RX5 25 "TankChain$Tank" "size" "I", .fieldLink RX5 28 "TankChain$Tank" "bank" "I", .fieldLink RX5 31 "TankChain$Tank" "silt" "I", .fieldLink RX5 34 "TankChain$Tank" "breachedOn" "I", .fieldLink RX5 37 "TankChain$Tank" "firstField" "LTankChain$Field;", .fieldLink RX5 41 "TankChain$Tank" "number" "I", .fieldLink RX5 44 "TankChain$Tank" "below" "LTankChain$Tank;", .instanceMethod yX3_init, .code yX3_init cX3_init 1 none, .methodLink RX3 1 objectInit, .fieldLink RX3 7 "TankChain$Pool" "water" "I", .fieldLink RX3 13 "TankChain$Pool" "opening" "I", .fieldLink RX3 16 "TankChain$Pool" "breached" "Z", .fieldLink RX3 20 "TankChain$Pool" "taken" "I", .fieldLink RX3 23 "TankChain$Pool" "spilt" "I"] ++ wsX30 ++ wsX50)
def wsX5_putInOrder : List Cond := .code yX5_putInOrder cX5_putInOrder 5 none :: ([.fieldLink RX5 37 "TankChain$Tank" "firstField" "LTankChain$Field;", .fieldLink RX5 54 "TankChain$Field" "next" "LTankChain$Field;", .methodLink RX5 48 yX0_isAhead, .instanceMethod yX0_isAhead, .selects RX0 yX0_isAhead yX0_isAhead, .initialized RX0, .code yX0_isAhead cX0_isAhead 5 (some .boolean), .fieldLink RX0 15 "TankChain$Custom" "firstsThere" "I", .fieldLink RX0 9 "TankChain$Custom" "firsts" "[I", .fieldLink RX0 43 "TankChain$Field" "number" "I", .methodLink RX0 39 yX0_rank, .static yX0_rank, .code yX0_rank cX0_rank 2 (some .int), .fieldLink RX0 48 "TankChain$Field" "temple" "Z", .fieldLink RX0 51 "TankChain$Field" "area" "I", .fieldLink RX0 54 "TankChain$Field" "far" "I"] ++ wsX50 ++ wsX10 ++ wsX00)
def wsX6_init : List Cond := .code yX6_init cX6_init 1 none :: ([.methodLink RX6 3 objectInit, .instanceMethod objectInit, .code objectInit ⟨#[0xb1]⟩ 1 none, .arrayClass .byte, .fieldLink RX6 9 "TankChain$Tape" "bytes" "[B", .fieldLink RX6 15 "TankChain$Tape" "held" "I", .fieldLink RX6 19 "TankChain$Tape" "length" "I", .fieldLink RX6 22 "TankChain$Tape" "kind" "I", .fieldLink RX6 25 "TankChain$Tape" "begin" "I", .fieldLink RX6 28 "TankChain$Tape" "end" "I"] ++ wsX60)
def wsX6_putByte : List Cond := .code yX6_putByte cX6_putByte 2 none :: ([.fieldLink RX6 15 "TankChain$Tape" "held" "I", .fieldLink RX6 9 "TankChain$Tape" "bytes" "[B"] ++ wsX60)
def wsX6_putFour : List Cond := .code yX6_putFour cX6_putFour 2 none :: ([.methodLink RX6 31 yX6_putByte, .instanceMethod yX6_putByte, .selects RX6 yX6_putByte yX6_putByte, .initialized RX6, .code yX6_putByte cX6_putByte 2 none, .fieldLink RX6 15 "TankChain$Tape" "held" "I", .fieldLink RX6 9 "TankChain$Tape" "bytes" "[B"] ++ wsX60)
def wsX6_byteAt : List Cond := .code yX6_byteAt cX6_byteAt 2 (some .int) :: ([.fieldLink RX6 9 "TankChain$Tape" "bytes" "[B"] ++ wsX60)
def wsX6_isBlank : List Cond := .code yX6_isBlank cX6_isBlank 1 (some .boolean) :: ([])
def wsX6_isLetter : List Cond := .code yX6_isLetter cX6_isLetter 1 (some .boolean) :: ([])
def wsX6_isDigit : List Cond := .code yX6_isDigit cX6_isDigit 1 (some .boolean) :: ([])
def wsX6_nextToken : List Cond := .code yX6_nextToken cX6_nextToken 1 none :: ([.fieldLink RX6 28 "TankChain$Tape" "end" "I", .fieldLink RX6 25 "TankChain$Tape" "begin" "I", .fieldLink RX6 19 "TankChain$Tape" "length" "I", .fieldLink RX6 22 "TankChain$Tape" "kind" "I", .methodLink RX6 87 yX6_byteAt, .instanceMethod yX6_byteAt, .selects RX6 yX6_byteAt yX6_byteAt, .initialized RX6, .code yX6_byteAt cX6_byteAt 2 (some .int), .fieldLink RX6 9 "TankChain$Tape" "bytes" "[B", .methodLink RX6 95 yX6_isBlank, .static yX6_isBlank, .code yX6_isBlank cX6_isBlank 1 (some .boolean), .methodLink RX6 99 yX6_isLetter, .static yX6_isLetter, .code yX6_isLetter cX6_isLetter 1 (some .boolean), .methodLink RX6 102 yX6_isDigit, .static yX6_isDigit, .code yX6_isDigit cX6_isDigit 1 (some .boolean)] ++ wsX60)
def wsJ0_coder_7d493 : List Cond := .code yJ0_coder_7d493 cJ0_coder_7d493 1 (some .byte) :: ([.fieldLink RJ0 38 "java/lang/String" "COMPACT_STRINGS" "Z", .fieldLink RJ0 15 "java/lang/String" "coder" "B"])
def wsJ0_length_8abf5 : List Cond := .code yJ0_length_8abf5 cJ0_length_8abf5 1 (some .int) :: ([.fieldLink RJ0 9 "java/lang/String" "value" "[B", .methodLink RJ0 335 yJ0_coder_7d493, .instanceMethod yJ0_coder_7d493, .selects RJ0 yJ0_coder_7d493 yJ0_coder_7d493, .initialized RJ0, .code yJ0_coder_7d493 cJ0_coder_7d493 1 (some .byte), .fieldLink RJ0 38 "java/lang/String" "COMPACT_STRINGS" "Z", .fieldLink RJ0 15 "java/lang/String" "coder" "B"])
def wsJ0_isLatin1_aae02 : List Cond := .code yJ0_isLatin1_aae02 cJ0_isLatin1_aae02 1 (some .boolean) :: ([.fieldLink RJ0 38 "java/lang/String" "COMPACT_STRINGS" "Z", .fieldLink RJ0 15 "java/lang/String" "coder" "B"])
def wsJ3_checkIndex_8e157 : List Cond := .code yJ3_checkIndex_8e157 cJ3_checkIndex_8e157 3 (some .int) :: ([])
def wsJ0_checkIndex_df160 : List Cond := .code yJ0_checkIndex_df160 cJ0_checkIndex_df160 2 none :: ([.fieldLink RJ0 1053 "jdk/internal/util/Preconditions" "SIOOBE_FORMATTER" "Ljava/util/function/BiFunction;", .methodLink RJ0 1059 yJ3_checkIndex_8e157, .static yJ3_checkIndex_8e157, .initialized RJ3, .code yJ3_checkIndex_8e157 cJ3_checkIndex_8e157 3 (some .int)])
def wsJ1_charAt_3b067 : List Cond := .code yJ1_charAt_3b067 cJ1_charAt_3b067 2 (some .char) :: ([.methodLink RJ1 9 yJ0_checkIndex_df160, .static yJ0_checkIndex_df160, .initialized RJ0, .code yJ0_checkIndex_df160 cJ0_checkIndex_df160 2 none, .fieldLink RJ0 1053 "jdk/internal/util/Preconditions" "SIOOBE_FORMATTER" "Ljava/util/function/BiFunction;", .methodLink RJ0 1059 yJ3_checkIndex_8e157, .static yJ3_checkIndex_8e157, .initialized RJ3, .code yJ3_checkIndex_8e157 cJ3_checkIndex_8e157 3 (some .int)])
def wsJ2_length_9d52b : List Cond := .code yJ2_length_9d52b cJ2_length_9d52b 1 (some .int) :: ([])
def wsJ2_checkIndex_2214a : List Cond := .code yJ2_checkIndex_2214a cJ2_checkIndex_2214a 2 none :: ([.methodLink RJ2 48 yJ2_length_9d52b, .static yJ2_length_9d52b, .initialized RJ2, .code yJ2_length_9d52b cJ2_length_9d52b 1 (some .int), .methodLink RJ2 414 yJ0_checkIndex_df160, .static yJ0_checkIndex_df160, .initialized RJ0, .code yJ0_checkIndex_df160 cJ0_checkIndex_df160 2 none, .fieldLink RJ0 1053 "jdk/internal/util/Preconditions" "SIOOBE_FORMATTER" "Ljava/util/function/BiFunction;", .methodLink RJ0 1059 yJ3_checkIndex_8e157, .static yJ3_checkIndex_8e157, .initialized RJ3, .code yJ3_checkIndex_8e157 cJ3_checkIndex_8e157 3 (some .int)])
def wsJ2_getChar_3b067 : List Cond := .code yJ2_getChar_3b067 cJ2_getChar_3b067 2 (some .char) :: ([.fieldLink RJ2 44 "java/lang/StringUTF16" "$assertionsDisabled" "Z", .fieldLink RJ2 59 "java/lang/StringUTF16" "HI_BYTE_SHIFT" "I", .fieldLink RJ2 63 "java/lang/StringUTF16" "LO_BYTE_SHIFT" "I", .methodLink RJ2 48 yJ2_length_9d52b, .static yJ2_length_9d52b, .initialized RJ2, .code yJ2_length_9d52b cJ2_length_9d52b 1 (some .int)])
def wsJ2_charAt_3b067 : List Cond := .code yJ2_charAt_3b067 cJ2_charAt_3b067 2 (some .char) :: ([.methodLink RJ2 67 yJ2_checkIndex_2214a, .static yJ2_checkIndex_2214a, .initialized RJ2, .code yJ2_checkIndex_2214a cJ2_checkIndex_2214a 2 none, .methodLink RJ2 48 yJ2_length_9d52b, .static yJ2_length_9d52b, .code yJ2_length_9d52b cJ2_length_9d52b 1 (some .int), .methodLink RJ2 414 yJ0_checkIndex_df160, .static yJ0_checkIndex_df160, .initialized RJ0, .code yJ0_checkIndex_df160 cJ0_checkIndex_df160 2 none, .fieldLink RJ0 1053 "jdk/internal/util/Preconditions" "SIOOBE_FORMATTER" "Ljava/util/function/BiFunction;", .methodLink RJ0 1059 yJ3_checkIndex_8e157, .static yJ3_checkIndex_8e157, .initialized RJ3, .code yJ3_checkIndex_8e157 cJ3_checkIndex_8e157 3 (some .int), .methodLink RJ2 71 yJ2_getChar_3b067, .static yJ2_getChar_3b067, .code yJ2_getChar_3b067 cJ2_getChar_3b067 2 (some .char), .fieldLink RJ2 44 "java/lang/StringUTF16" "$assertionsDisabled" "Z", .fieldLink RJ2 59 "java/lang/StringUTF16" "HI_BYTE_SHIFT" "I", .fieldLink RJ2 63 "java/lang/StringUTF16" "LO_BYTE_SHIFT" "I"])
def wsJ0_charAt_5068e_r1 : List Cond := [Cond.fieldLink RJ0 9 "java/lang/String" "value" "[B", Cond.methodLink RJ0 492 yJ0_isLatin1_aae02, Cond.instanceMethod yJ0_isLatin1_aae02, Cond.selects RJ0 yJ0_isLatin1_aae02 yJ0_isLatin1_aae02, Cond.initialized RJ0, Cond.code yJ0_isLatin1_aae02 cJ0_isLatin1_aae02 1 (some .boolean), Cond.fieldLink RJ0 38 "java/lang/String" "COMPACT_STRINGS" "Z", Cond.fieldLink RJ0 15 "java/lang/String" "coder" "B", Cond.methodLink RJ0 495 yJ1_charAt_3b067, Cond.static yJ1_charAt_3b067, Cond.initialized RJ1, Cond.code yJ1_charAt_3b067 cJ1_charAt_3b067 2 (some .char), Cond.methodLink RJ1 9 yJ0_checkIndex_df160, Cond.static yJ0_checkIndex_df160, Cond.code yJ0_checkIndex_df160 cJ0_checkIndex_df160 2 none, Cond.fieldLink RJ0 1053 "jdk/internal/util/Preconditions" "SIOOBE_FORMATTER" "Ljava/util/function/BiFunction;", Cond.methodLink RJ0 1059 yJ3_checkIndex_8e157, Cond.static yJ3_checkIndex_8e157, Cond.initialized RJ3, Cond.code yJ3_checkIndex_8e157 cJ3_checkIndex_8e157 3 (some .int), Cond.methodLink RJ0 498 yJ2_charAt_3b067, Cond.static yJ2_charAt_3b067, Cond.initialized RJ2, Cond.code yJ2_charAt_3b067 cJ2_charAt_3b067 2 (some .char)]
def wsJ0_charAt_5068e_r2 : List Cond := [Cond.methodLink RJ2 67 yJ2_checkIndex_2214a, Cond.static yJ2_checkIndex_2214a, Cond.code yJ2_checkIndex_2214a cJ2_checkIndex_2214a 2 none, Cond.methodLink RJ2 48 yJ2_length_9d52b, Cond.static yJ2_length_9d52b, Cond.code yJ2_length_9d52b cJ2_length_9d52b 1 (some .int), Cond.methodLink RJ2 414 yJ0_checkIndex_df160, Cond.methodLink RJ2 71 yJ2_getChar_3b067, Cond.static yJ2_getChar_3b067, Cond.code yJ2_getChar_3b067 cJ2_getChar_3b067 2 (some .char), Cond.fieldLink RJ2 44 "java/lang/StringUTF16" "$assertionsDisabled" "Z", Cond.fieldLink RJ2 59 "java/lang/StringUTF16" "HI_BYTE_SHIFT" "I", Cond.fieldLink RJ2 63 "java/lang/StringUTF16" "LO_BYTE_SHIFT" "I"]
def wsJ0_charAt_5068e : List Cond := .code yJ0_charAt_5068e cJ0_charAt_5068e 2 (some .char) :: ((wsJ0_charAt_5068e_r1 ++ wsJ0_charAt_5068e_r2))
def wsX6_isWord_r1 : List Cond := [Cond.fieldLink RX6 22 "TankChain$Tape" "kind" "I", Cond.fieldLink RX6 28 "TankChain$Tape" "end" "I", Cond.fieldLink RX6 25 "TankChain$Tape" "begin" "I", Cond.methodLink RX6 83 yJ0_length_8abf5, Cond.instanceMethod yJ0_length_8abf5, Cond.selects RJ0 yJ0_length_8abf5 yJ0_length_8abf5, Cond.initialized RJ0, Cond.code yJ0_length_8abf5 cJ0_length_8abf5 1 (some .int), Cond.fieldLink RJ0 9 "java/lang/String" "value" "[B", Cond.methodLink RJ0 335 yJ0_coder_7d493, Cond.instanceMethod yJ0_coder_7d493, Cond.selects RJ0 yJ0_coder_7d493 yJ0_coder_7d493, Cond.code yJ0_coder_7d493 cJ0_coder_7d493 1 (some .byte), Cond.fieldLink RJ0 38 "java/lang/String" "COMPACT_STRINGS" "Z", Cond.fieldLink RJ0 15 "java/lang/String" "coder" "B", Cond.methodLink RX6 87 yX6_byteAt, Cond.instanceMethod yX6_byteAt, Cond.selects RX6 yX6_byteAt yX6_byteAt, Cond.initialized RX6, Cond.code yX6_byteAt cX6_byteAt 2 (some .int), Cond.fieldLink RX6 9 "TankChain$Tape" "bytes" "[B", Cond.methodLink RX6 91 yJ0_charAt_5068e, Cond.instanceMethod yJ0_charAt_5068e, Cond.selects RJ0 yJ0_charAt_5068e yJ0_charAt_5068e]
def wsX6_isWord_r2 : List Cond := [Cond.code yJ0_charAt_5068e cJ0_charAt_5068e 2 (some .char), Cond.methodLink RJ0 492 yJ0_isLatin1_aae02, Cond.instanceMethod yJ0_isLatin1_aae02, Cond.selects RJ0 yJ0_isLatin1_aae02 yJ0_isLatin1_aae02, Cond.code yJ0_isLatin1_aae02 cJ0_isLatin1_aae02 1 (some .boolean), Cond.methodLink RJ0 495 yJ1_charAt_3b067, Cond.static yJ1_charAt_3b067, Cond.initialized RJ1, Cond.code yJ1_charAt_3b067 cJ1_charAt_3b067 2 (some .char), Cond.methodLink RJ1 9 yJ0_checkIndex_df160, Cond.static yJ0_checkIndex_df160, Cond.code yJ0_checkIndex_df160 cJ0_checkIndex_df160 2 none, Cond.fieldLink RJ0 1053 "jdk/internal/util/Preconditions" "SIOOBE_FORMATTER" "Ljava/util/function/BiFunction;", Cond.methodLink RJ0 1059 yJ3_checkIndex_8e157, Cond.static yJ3_checkIndex_8e157, Cond.initialized RJ3, Cond.code yJ3_checkIndex_8e157 cJ3_checkIndex_8e157 3 (some .int), Cond.methodLink RJ0 498 yJ2_charAt_3b067, Cond.static yJ2_charAt_3b067, Cond.initialized RJ2, Cond.code yJ2_charAt_3b067 cJ2_charAt_3b067 2 (some .char), Cond.methodLink RJ2 67 yJ2_checkIndex_2214a, Cond.static yJ2_checkIndex_2214a, Cond.code yJ2_checkIndex_2214a cJ2_checkIndex_2214a 2 none]
def wsX6_isWord_r3 : List Cond := [Cond.methodLink RJ2 48 yJ2_length_9d52b, Cond.static yJ2_length_9d52b, Cond.code yJ2_length_9d52b cJ2_length_9d52b 1 (some .int), Cond.methodLink RJ2 414 yJ0_checkIndex_df160, Cond.methodLink RJ2 71 yJ2_getChar_3b067, Cond.static yJ2_getChar_3b067, Cond.code yJ2_getChar_3b067 cJ2_getChar_3b067 2 (some .char), Cond.fieldLink RJ2 44 "java/lang/StringUTF16" "$assertionsDisabled" "Z", Cond.fieldLink RJ2 59 "java/lang/StringUTF16" "HI_BYTE_SHIFT" "I", Cond.fieldLink RJ2 63 "java/lang/StringUTF16" "LO_BYTE_SHIFT" "I"]
def wsX6_isWord : List Cond := .code yX6_isWord cX6_isWord 3 (some .boolean) :: ((wsX6_isWord_r1 ++ (wsX6_isWord_r2 ++ wsX6_isWord_r3)) ++ wsX60)
def wsX6_readFirst_r1 : List Cond := [Cond.methodLink RX6 52 yX6_isWord, Cond.instanceMethod yX6_isWord, Cond.selects RX6 yX6_isWord yX6_isWord, Cond.initialized RX6, Cond.code yX6_isWord cX6_isWord 3 (some .boolean), Cond.fieldLink RX6 22 "TankChain$Tape" "kind" "I", Cond.fieldLink RX6 28 "TankChain$Tape" "end" "I", Cond.fieldLink RX6 25 "TankChain$Tape" "begin" "I", Cond.methodLink RX6 83 yJ0_length_8abf5, Cond.instanceMethod yJ0_length_8abf5, Cond.selects RJ0 yJ0_length_8abf5 yJ0_length_8abf5, Cond.initialized RJ0, Cond.code yJ0_length_8abf5 cJ0_length_8abf5 1 (some .int), Cond.fieldLink RJ0 9 "java/lang/String" "value" "[B", Cond.methodLink RJ0 335 yJ0_coder_7d493, Cond.instanceMethod yJ0_coder_7d493, Cond.selects RJ0 yJ0_coder_7d493 yJ0_coder_7d493, Cond.code yJ0_coder_7d493 cJ0_coder_7d493 1 (some .byte), Cond.fieldLink RJ0 38 "java/lang/String" "COMPACT_STRINGS" "Z", Cond.fieldLink RJ0 15 "java/lang/String" "coder" "B", Cond.methodLink RX6 87 yX6_byteAt, Cond.instanceMethod yX6_byteAt, Cond.selects RX6 yX6_byteAt yX6_byteAt, Cond.code yX6_byteAt cX6_byteAt 2 (some .int)]
def wsX6_readFirst_r2 : List Cond := [Cond.fieldLink RX6 9 "TankChain$Tape" "bytes" "[B", Cond.methodLink RX6 91 yJ0_charAt_5068e, Cond.instanceMethod yJ0_charAt_5068e, Cond.selects RJ0 yJ0_charAt_5068e yJ0_charAt_5068e, Cond.code yJ0_charAt_5068e cJ0_charAt_5068e 2 (some .char), Cond.methodLink RJ0 492 yJ0_isLatin1_aae02, Cond.instanceMethod yJ0_isLatin1_aae02, Cond.selects RJ0 yJ0_isLatin1_aae02 yJ0_isLatin1_aae02, Cond.code yJ0_isLatin1_aae02 cJ0_isLatin1_aae02 1 (some .boolean), Cond.methodLink RJ0 495 yJ1_charAt_3b067, Cond.static yJ1_charAt_3b067, Cond.initialized RJ1, Cond.code yJ1_charAt_3b067 cJ1_charAt_3b067 2 (some .char), Cond.methodLink RJ1 9 yJ0_checkIndex_df160, Cond.static yJ0_checkIndex_df160, Cond.code yJ0_checkIndex_df160 cJ0_checkIndex_df160 2 none, Cond.fieldLink RJ0 1053 "jdk/internal/util/Preconditions" "SIOOBE_FORMATTER" "Ljava/util/function/BiFunction;", Cond.methodLink RJ0 1059 yJ3_checkIndex_8e157, Cond.static yJ3_checkIndex_8e157, Cond.initialized RJ3, Cond.code yJ3_checkIndex_8e157 cJ3_checkIndex_8e157 3 (some .int), Cond.methodLink RJ0 498 yJ2_charAt_3b067, Cond.static yJ2_charAt_3b067, Cond.initialized RJ2]
def wsX6_readFirst_r3 : List Cond := [Cond.code yJ2_charAt_3b067 cJ2_charAt_3b067 2 (some .char), Cond.methodLink RJ2 67 yJ2_checkIndex_2214a, Cond.static yJ2_checkIndex_2214a, Cond.code yJ2_checkIndex_2214a cJ2_checkIndex_2214a 2 none, Cond.methodLink RJ2 48 yJ2_length_9d52b, Cond.static yJ2_length_9d52b, Cond.code yJ2_length_9d52b cJ2_length_9d52b 1 (some .int), Cond.methodLink RJ2 414 yJ0_checkIndex_df160, Cond.methodLink RJ2 71 yJ2_getChar_3b067, Cond.static yJ2_getChar_3b067, Cond.code yJ2_getChar_3b067 cJ2_getChar_3b067 2 (some .char), Cond.fieldLink RJ2 44 "java/lang/StringUTF16" "$assertionsDisabled" "Z", Cond.fieldLink RJ2 59 "java/lang/StringUTF16" "HI_BYTE_SHIFT" "I", Cond.fieldLink RJ2 63 "java/lang/StringUTF16" "LO_BYTE_SHIFT" "I", Cond.methodLink RX6 78 yX0_addFirst, Cond.instanceMethod yX0_addFirst, Cond.selects RX0 yX0_addFirst yX0_addFirst, Cond.initialized RX0, Cond.code yX0_addFirst cX0_addFirst 2 none, Cond.fieldLink RX0 15 "TankChain$Custom" "firstsThere" "I", Cond.fieldLink RX0 9 "TankChain$Custom" "firsts" "[I"]
def wsX6_readFirst : List Cond := .code yX6_readFirst cX6_readFirst 2 (some .boolean) :: ((wsX6_readFirst_r1 ++ (wsX6_readFirst_r2 ++ wsX6_readFirst_r3)) ++ wsX60 ++ wsX00)
def wsX6_numberHere : List Cond := .code yX6_numberHere cX6_numberHere 3 (some .int) :: ([.fieldLink RX6 22 "TankChain$Tape" "kind" "I", .fieldLink RX6 28 "TankChain$Tape" "end" "I", .fieldLink RX6 25 "TankChain$Tape" "begin" "I", .methodLink RX6 87 yX6_byteAt, .instanceMethod yX6_byteAt, .selects RX6 yX6_byteAt yX6_byteAt, .initialized RX6, .code yX6_byteAt cX6_byteAt 2 (some .int), .fieldLink RX6 9 "TankChain$Tape" "bytes" "[B"] ++ wsX60)
def wsX6_readStatement_r1 : List Cond := [Cond.fieldLink RX6 65 "TankChain$Custom" "near" "I", Cond.fieldLink RX6 69 "TankChain$Custom" "hold" "I", Cond.fieldLink RX6 73 "TankChain$Custom" "fair" "Z", Cond.fieldLink RX6 22 "TankChain$Tape" "kind" "I", Cond.methodLink RX6 52 yX6_isWord, Cond.instanceMethod yX6_isWord, Cond.selects RX6 yX6_isWord yX6_isWord, Cond.initialized RX6, Cond.code yX6_isWord cX6_isWord 3 (some .boolean), Cond.fieldLink RX6 28 "TankChain$Tape" "end" "I", Cond.fieldLink RX6 25 "TankChain$Tape" "begin" "I", Cond.methodLink RX6 83 yJ0_length_8abf5, Cond.instanceMethod yJ0_length_8abf5, Cond.selects RJ0 yJ0_length_8abf5 yJ0_length_8abf5, Cond.initialized RJ0, Cond.code yJ0_length_8abf5 cJ0_length_8abf5 1 (some .int), Cond.fieldLink RJ0 9 "java/lang/String" "value" "[B", Cond.methodLink RJ0 335 yJ0_coder_7d493, Cond.instanceMethod yJ0_coder_7d493, Cond.selects RJ0 yJ0_coder_7d493 yJ0_coder_7d493, Cond.code yJ0_coder_7d493 cJ0_coder_7d493 1 (some .byte), Cond.fieldLink RJ0 38 "java/lang/String" "COMPACT_STRINGS" "Z", Cond.fieldLink RJ0 15 "java/lang/String" "coder" "B", Cond.methodLink RX6 87 yX6_byteAt]
def wsX6_readStatement_r2 : List Cond := [Cond.instanceMethod yX6_byteAt, Cond.selects RX6 yX6_byteAt yX6_byteAt, Cond.code yX6_byteAt cX6_byteAt 2 (some .int), Cond.fieldLink RX6 9 "TankChain$Tape" "bytes" "[B", Cond.methodLink RX6 91 yJ0_charAt_5068e, Cond.instanceMethod yJ0_charAt_5068e, Cond.selects RJ0 yJ0_charAt_5068e yJ0_charAt_5068e, Cond.code yJ0_charAt_5068e cJ0_charAt_5068e 2 (some .char), Cond.methodLink RJ0 492 yJ0_isLatin1_aae02, Cond.instanceMethod yJ0_isLatin1_aae02, Cond.selects RJ0 yJ0_isLatin1_aae02 yJ0_isLatin1_aae02, Cond.code yJ0_isLatin1_aae02 cJ0_isLatin1_aae02 1 (some .boolean), Cond.methodLink RJ0 495 yJ1_charAt_3b067, Cond.static yJ1_charAt_3b067, Cond.initialized RJ1, Cond.code yJ1_charAt_3b067 cJ1_charAt_3b067 2 (some .char), Cond.methodLink RJ1 9 yJ0_checkIndex_df160, Cond.static yJ0_checkIndex_df160, Cond.code yJ0_checkIndex_df160 cJ0_checkIndex_df160 2 none, Cond.fieldLink RJ0 1053 "jdk/internal/util/Preconditions" "SIOOBE_FORMATTER" "Ljava/util/function/BiFunction;", Cond.methodLink RJ0 1059 yJ3_checkIndex_8e157, Cond.static yJ3_checkIndex_8e157, Cond.initialized RJ3, Cond.code yJ3_checkIndex_8e157 cJ3_checkIndex_8e157 3 (some .int)]
def wsX6_readStatement_r3 : List Cond := [Cond.methodLink RJ0 498 yJ2_charAt_3b067, Cond.static yJ2_charAt_3b067, Cond.initialized RJ2, Cond.code yJ2_charAt_3b067 cJ2_charAt_3b067 2 (some .char), Cond.methodLink RJ2 67 yJ2_checkIndex_2214a, Cond.static yJ2_checkIndex_2214a, Cond.code yJ2_checkIndex_2214a cJ2_checkIndex_2214a 2 none, Cond.methodLink RJ2 48 yJ2_length_9d52b, Cond.static yJ2_length_9d52b, Cond.code yJ2_length_9d52b cJ2_length_9d52b 1 (some .int), Cond.methodLink RJ2 414 yJ0_checkIndex_df160, Cond.methodLink RJ2 71 yJ2_getChar_3b067, Cond.static yJ2_getChar_3b067, Cond.code yJ2_getChar_3b067 cJ2_getChar_3b067 2 (some .char), Cond.fieldLink RJ2 44 "java/lang/StringUTF16" "$assertionsDisabled" "Z", Cond.fieldLink RJ2 59 "java/lang/StringUTF16" "HI_BYTE_SHIFT" "I", Cond.fieldLink RJ2 63 "java/lang/StringUTF16" "LO_BYTE_SHIFT" "I", Cond.methodLink RX6 40 yX6_nextToken, Cond.instanceMethod yX6_nextToken, Cond.selects RX6 yX6_nextToken yX6_nextToken, Cond.code yX6_nextToken cX6_nextToken 1 none, Cond.fieldLink RX6 19 "TankChain$Tape" "length" "I", Cond.methodLink RX6 95 yX6_isBlank, Cond.static yX6_isBlank]
def wsX6_readStatement_r4 : List Cond := [Cond.code yX6_isBlank cX6_isBlank 1 (some .boolean), Cond.methodLink RX6 99 yX6_isLetter, Cond.static yX6_isLetter, Cond.code yX6_isLetter cX6_isLetter 1 (some .boolean), Cond.methodLink RX6 102 yX6_isDigit, Cond.static yX6_isDigit, Cond.code yX6_isDigit cX6_isDigit 1 (some .boolean), Cond.methodLink RX6 56 yX6_readFirst, Cond.instanceMethod yX6_readFirst, Cond.selects RX6 yX6_readFirst yX6_readFirst, Cond.code yX6_readFirst cX6_readFirst 2 (some .boolean), Cond.methodLink RX6 78 yX0_addFirst, Cond.instanceMethod yX0_addFirst, Cond.selects RX0 yX0_addFirst yX0_addFirst, Cond.initialized RX0, Cond.code yX0_addFirst cX0_addFirst 2 none, Cond.fieldLink RX0 15 "TankChain$Custom" "firstsThere" "I", Cond.fieldLink RX0 9 "TankChain$Custom" "firsts" "[I", Cond.methodLink RX6 61 yX6_numberHere, Cond.instanceMethod yX6_numberHere, Cond.selects RX6 yX6_numberHere yX6_numberHere, Cond.code yX6_numberHere cX6_numberHere 3 (some .int)]
def wsX6_readStatement : List Cond := .code yX6_readStatement cX6_readStatement 3 (some .boolean) :: ((wsX6_readStatement_r1 ++ (wsX6_readStatement_r2 ++ (wsX6_readStatement_r3 ++ wsX6_readStatement_r4))) ++ wsX00 ++ wsX60)
def wsX6_faultReading_r1 : List Cond := [Cond.fieldLink RX6 19 "TankChain$Tape" "length" "I", Cond.fieldLink RX6 28 "TankChain$Tape" "end" "I", Cond.fieldLink RX6 22 "TankChain$Tape" "kind" "I", Cond.fieldLink RX6 43 "TankChain$Custom" "statements" "I", Cond.fieldLink RX6 25 "TankChain$Tape" "begin" "I", Cond.methodLink RX6 35 yX0_clear, Cond.instanceMethod yX0_clear, Cond.selects RX0 yX0_clear yX0_clear, Cond.initialized RX0, Cond.code yX0_clear cX0_clear 1 none, Cond.fieldLink RX0 15 "TankChain$Custom" "firstsThere" "I", Cond.fieldLink RX0 19 "TankChain$Custom" "near" "I", Cond.fieldLink RX0 22 "TankChain$Custom" "hold" "I", Cond.fieldLink RX0 25 "TankChain$Custom" "fair" "Z", Cond.fieldLink RX0 29 "TankChain$Custom" "statements" "I", Cond.methodLink RX6 40 yX6_nextToken, Cond.instanceMethod yX6_nextToken, Cond.selects RX6 yX6_nextToken yX6_nextToken, Cond.initialized RX6, Cond.code yX6_nextToken cX6_nextToken 1 none, Cond.methodLink RX6 87 yX6_byteAt, Cond.instanceMethod yX6_byteAt, Cond.selects RX6 yX6_byteAt yX6_byteAt, Cond.code yX6_byteAt cX6_byteAt 2 (some .int)]
def wsX6_faultReading_r2 : List Cond := [Cond.fieldLink RX6 9 "TankChain$Tape" "bytes" "[B", Cond.methodLink RX6 95 yX6_isBlank, Cond.static yX6_isBlank, Cond.code yX6_isBlank cX6_isBlank 1 (some .boolean), Cond.methodLink RX6 99 yX6_isLetter, Cond.static yX6_isLetter, Cond.code yX6_isLetter cX6_isLetter 1 (some .boolean), Cond.methodLink RX6 102 yX6_isDigit, Cond.static yX6_isDigit, Cond.code yX6_isDigit cX6_isDigit 1 (some .boolean), Cond.methodLink RX6 46 yX6_readStatement, Cond.instanceMethod yX6_readStatement, Cond.selects RX6 yX6_readStatement yX6_readStatement, Cond.code yX6_readStatement cX6_readStatement 3 (some .boolean), Cond.fieldLink RX6 65 "TankChain$Custom" "near" "I", Cond.fieldLink RX6 69 "TankChain$Custom" "hold" "I", Cond.fieldLink RX6 73 "TankChain$Custom" "fair" "Z", Cond.methodLink RX6 52 yX6_isWord, Cond.instanceMethod yX6_isWord, Cond.selects RX6 yX6_isWord yX6_isWord, Cond.code yX6_isWord cX6_isWord 3 (some .boolean), Cond.methodLink RX6 83 yJ0_length_8abf5, Cond.instanceMethod yJ0_length_8abf5, Cond.selects RJ0 yJ0_length_8abf5 yJ0_length_8abf5]
def wsX6_faultReading_r3 : List Cond := [Cond.initialized RJ0, Cond.code yJ0_length_8abf5 cJ0_length_8abf5 1 (some .int), Cond.fieldLink RJ0 9 "java/lang/String" "value" "[B", Cond.methodLink RJ0 335 yJ0_coder_7d493, Cond.instanceMethod yJ0_coder_7d493, Cond.selects RJ0 yJ0_coder_7d493 yJ0_coder_7d493, Cond.code yJ0_coder_7d493 cJ0_coder_7d493 1 (some .byte), Cond.fieldLink RJ0 38 "java/lang/String" "COMPACT_STRINGS" "Z", Cond.fieldLink RJ0 15 "java/lang/String" "coder" "B", Cond.methodLink RX6 91 yJ0_charAt_5068e, Cond.instanceMethod yJ0_charAt_5068e, Cond.selects RJ0 yJ0_charAt_5068e yJ0_charAt_5068e, Cond.code yJ0_charAt_5068e cJ0_charAt_5068e 2 (some .char), Cond.methodLink RJ0 492 yJ0_isLatin1_aae02, Cond.instanceMethod yJ0_isLatin1_aae02, Cond.selects RJ0 yJ0_isLatin1_aae02 yJ0_isLatin1_aae02, Cond.code yJ0_isLatin1_aae02 cJ0_isLatin1_aae02 1 (some .boolean), Cond.methodLink RJ0 495 yJ1_charAt_3b067, Cond.static yJ1_charAt_3b067, Cond.initialized RJ1, Cond.code yJ1_charAt_3b067 cJ1_charAt_3b067 2 (some .char), Cond.methodLink RJ1 9 yJ0_checkIndex_df160, Cond.static yJ0_checkIndex_df160, Cond.code yJ0_checkIndex_df160 cJ0_checkIndex_df160 2 none]
def wsX6_faultReading_r4 : List Cond := [Cond.fieldLink RJ0 1053 "jdk/internal/util/Preconditions" "SIOOBE_FORMATTER" "Ljava/util/function/BiFunction;", Cond.methodLink RJ0 1059 yJ3_checkIndex_8e157, Cond.static yJ3_checkIndex_8e157, Cond.initialized RJ3, Cond.code yJ3_checkIndex_8e157 cJ3_checkIndex_8e157 3 (some .int), Cond.methodLink RJ0 498 yJ2_charAt_3b067, Cond.static yJ2_charAt_3b067, Cond.initialized RJ2, Cond.code yJ2_charAt_3b067 cJ2_charAt_3b067 2 (some .char), Cond.methodLink RJ2 67 yJ2_checkIndex_2214a, Cond.static yJ2_checkIndex_2214a, Cond.code yJ2_checkIndex_2214a cJ2_checkIndex_2214a 2 none, Cond.methodLink RJ2 48 yJ2_length_9d52b, Cond.static yJ2_length_9d52b, Cond.code yJ2_length_9d52b cJ2_length_9d52b 1 (some .int), Cond.methodLink RJ2 414 yJ0_checkIndex_df160, Cond.methodLink RJ2 71 yJ2_getChar_3b067, Cond.static yJ2_getChar_3b067, Cond.code yJ2_getChar_3b067 cJ2_getChar_3b067 2 (some .char), Cond.fieldLink RJ2 44 "java/lang/StringUTF16" "$assertionsDisabled" "Z", Cond.fieldLink RJ2 59 "java/lang/StringUTF16" "HI_BYTE_SHIFT" "I", Cond.fieldLink RJ2 63 "java/lang/StringUTF16" "LO_BYTE_SHIFT" "I", Cond.methodLink RX6 56 yX6_readFirst, Cond.instanceMethod yX6_readFirst]
def wsX6_faultReading_r5 : List Cond := [Cond.selects RX6 yX6_readFirst yX6_readFirst, Cond.code yX6_readFirst cX6_readFirst 2 (some .boolean), Cond.methodLink RX6 78 yX0_addFirst, Cond.instanceMethod yX0_addFirst, Cond.selects RX0 yX0_addFirst yX0_addFirst, Cond.code yX0_addFirst cX0_addFirst 2 none, Cond.fieldLink RX0 9 "TankChain$Custom" "firsts" "[I", Cond.methodLink RX6 61 yX6_numberHere, Cond.instanceMethod yX6_numberHere, Cond.selects RX6 yX6_numberHere yX6_numberHere, Cond.code yX6_numberHere cX6_numberHere 3 (some .int)]
def wsX6_faultReading : List Cond := .code yX6_faultReading cX6_faultReading 3 (some .int) :: ((wsX6_faultReading_r1 ++ (wsX6_faultReading_r2 ++ (wsX6_faultReading_r3 ++ (wsX6_faultReading_r4 ++ wsX6_faultReading_r5)))) ++ wsX60 ++ wsX00)
def wsX7_init_r1 : List Cond := [Cond.methodLink RX7 1 objectInit, Cond.instanceMethod objectInit, Cond.code objectInit ⟨#[0xb1]⟩ 1 none, Cond.classLink RX7 9 RX1, Cond.fieldLink RX7 11 "TankChain" "fields" "[LTankChain$Field;", Cond.classLink RX7 15 RX6, Cond.instantiable RX6 6, Cond.initialized RX6, Cond.fieldLink RX7 18 "TankChain" "tape" "LTankChain$Tape;", Cond.classLink RX7 22 RX0, Cond.instantiable RX0 6, Cond.initialized RX0, Cond.fieldLink RX7 25 "TankChain" "inForce" "LTankChain$Custom;", Cond.fieldLink RX7 29 "TankChain" "draft" "LTankChain$Custom;", Cond.classLink RX7 32 RX4, Cond.instantiable RX4 4, Cond.initialized RX4, Cond.fieldLink RX7 35 "TankChain" "ever" "LTankChain$Sums;", Cond.fieldLink RX7 39 "TankChain" "fieldsThere" "I", Cond.fieldLink RX7 43 "TankChain" "daysGone" "I", Cond.fieldLink RX7 46 "TankChain" "lastRain" "I", Cond.fieldLink RX7 49 "TankChain" "waterTold" "I", Cond.fieldLink RX7 52 "TankChain" "faultPlace" "I", Cond.fieldLink RX7 55 "TankChain" "breachDay" "I"]
def wsX7_init_r2 : List Cond := [Cond.fieldLink RX7 58 "TankChain" "breachFirst" "I", Cond.fieldLink RX7 61 "TankChain" "breachTanks" "I", Cond.methodLink RX7 64 Lib.Math.min.name, Cond.static Lib.Math.min.name, Cond.initialized "java/lang/Math", Cond.code Lib.Math.min.name Lib.Math.min.code 2 (some .int), Cond.methodLink RX7 70 Lib.Math.max.name, Cond.static Lib.Math.max.name, Cond.code Lib.Math.max.name Lib.Math.max.code 2 (some .int), Cond.classLink RX7 73 RX5, Cond.fieldLink RX7 75 "TankChain" "tanks" "[LTankChain$Tank;", Cond.instantiable RX5 10, Cond.initialized RX5, Cond.classLink RX7 82 RX2, Cond.instantiable RX2 4, Cond.initialized RX2, Cond.fieldLink RX7 87 "TankChain" "flow" "LTankChain$Flow;", Cond.instanceMethod yX6_init, Cond.code yX6_init cX6_init 1 none, Cond.methodLink RX6 3 objectInit, Cond.arrayClass .byte, Cond.fieldLink RX6 9 "TankChain$Tape" "bytes" "[B", Cond.fieldLink RX6 15 "TankChain$Tape" "held" "I", Cond.fieldLink RX6 19 "TankChain$Tape" "length" "I"]
def wsX7_init_r3 : List Cond := [Cond.fieldLink RX6 22 "TankChain$Tape" "kind" "I", Cond.fieldLink RX6 25 "TankChain$Tape" "begin" "I", Cond.fieldLink RX6 28 "TankChain$Tape" "end" "I", Cond.instanceMethod yX0_init, Cond.code yX0_init cX0_init 1 none, Cond.methodLink RX0 3 objectInit, Cond.arrayClass .int, Cond.fieldLink RX0 9 "TankChain$Custom" "firsts" "[I", Cond.fieldLink RX0 15 "TankChain$Custom" "firstsThere" "I", Cond.fieldLink RX0 19 "TankChain$Custom" "near" "I", Cond.fieldLink RX0 22 "TankChain$Custom" "hold" "I", Cond.fieldLink RX0 25 "TankChain$Custom" "fair" "Z", Cond.fieldLink RX0 29 "TankChain$Custom" "statements" "I", Cond.instanceMethod yX4_init, Cond.code yX4_init cX4_init 1 none, Cond.methodLink RX4 1 objectInit, Cond.fieldLink RX4 7 "TankChain$Sums" "rained" "I", Cond.fieldLink RX4 13 "TankChain$Sums" "seeped" "I", Cond.fieldLink RX4 16 "TankChain$Sums" "kept" "I", Cond.fieldLink RX4 19 "TankChain$Sums" "out" "I", Cond.methodLink RX7 79 yX5_init, Cond.instanceMethod yX5_init, Cond.code yX5_init cX5_init 3 none, Cond.methodLink RX5 3 objectInit]
def wsX7_init_r4 : List Cond := [Cond.classLink RX5 9 RX3, Cond.instantiable RX3 5, Cond.initialized RX3, Cond.fieldLink RX5 12 "TankChain$Tank" "now" "LTankChain$Pool;", Cond.fieldLink RX5 18 "TankChain$Tank" "after" "LTankChain$Pool;", Cond.fieldLink RX5 21 "TankChain$Tank" "catches" "I", Cond.fieldLink RX5 25 "TankChain$Tank" "size" "I", Cond.fieldLink RX5 28 "TankChain$Tank" "bank" "I", Cond.fieldLink RX5 31 "TankChain$Tank" "silt" "I", Cond.fieldLink RX5 34 "TankChain$Tank" "breachedOn" "I", Cond.fieldLink RX5 37 "TankChain$Tank" "firstField" "LTankChain$Field;", Cond.fieldLink RX5 41 "TankChain$Tank" "number" "I", Cond.fieldLink RX5 44 "TankChain$Tank" "below" "LTankChain$Tank;", Cond.instanceMethod yX3_init, Cond.code yX3_init cX3_init 1 none, Cond.methodLink RX3 1 objectInit, Cond.fieldLink RX3 7 "TankChain$Pool" "water" "I", Cond.fieldLink RX3 13 "TankChain$Pool" "opening" "I", Cond.fieldLink RX3 16 "TankChain$Pool" "breached" "Z", Cond.fieldLink RX3 20 "TankChain$Pool" "taken" "I", Cond.fieldLink RX3 23 "TankChain$Pool" "spilt" "I", Cond.methodLink RX7 84 yX2_init, Cond.instanceMethod yX2_init, Cond.code yX2_init cX2_init 3 none]
def wsX7_init_r5 : List Cond := [Cond.methodLink RX2 3 objectInit, Cond.classLink RX2 9 RX4, Cond.fieldLink RX2 12 "TankChain$Flow" "sums" "LTankChain$Sums;", Cond.fieldLink RX2 18 "TankChain$Flow" "areasFed" "I", Cond.fieldLink RX2 22 "TankChain$Flow" "head" "LTankChain$Tank;", Cond.fieldLink RX2 26 "TankChain$Flow" "custom" "LTankChain$Custom;"]
def wsX7_init : List Cond := .code yX7_init cX7_init 5 none :: ((wsX7_init_r1 ++ (wsX7_init_r2 ++ (wsX7_init_r3 ++ (wsX7_init_r4 ++ wsX7_init_r5)))) ++ wsX70 ++ wsX60 ++ wsX00 ++ wsX40 ++ wsX50 ++ wsX20 ++ wsX30)
def wsX7_tankAt : List Cond := .code yX7_tankAt cX7_tankAt 2 (some (.object "TankChain$Tank")) :: ([.fieldLink RX7 75 "TankChain" "tanks" "[LTankChain$Tank;"] ++ wsX70)
def wsX7_isWithin : List Cond := .code yX7_isWithin cX7_isWithin 3 (some .boolean) :: ([])
def wsX7_tank : List Cond := .code yX7_tank cX7_tank 7 (some .boolean) :: ([.fieldLink RX7 43 "TankChain" "daysGone" "I", .fieldLink RX7 99 "TankChain$Tank" "catches" "I", .fieldLink RX7 102 "TankChain$Tank" "size" "I", .fieldLink RX7 105 "TankChain$Tank" "bank" "I", .methodLink RX7 91 yX7_tankAt, .instanceMethod yX7_tankAt, .selects RX7 yX7_tankAt yX7_tankAt, .initialized RX7, .code yX7_tankAt cX7_tankAt 2 (some (.object "TankChain$Tank")), .fieldLink RX7 75 "TankChain" "tanks" "[LTankChain$Tank;", .methodLink RX7 95 yX7_isWithin, .static yX7_isWithin, .code yX7_isWithin cX7_isWithin 3 (some .boolean)] ++ wsX70 ++ wsX50)
def wsX7_water : List Cond := .code yX7_water cX7_water 4 (some .boolean) :: ([.fieldLink RX7 108 "TankChain$Tank" "now" "LTankChain$Pool;", .fieldLink RX7 112 "TankChain$Pool" "breached" "Z", .fieldLink RX7 49 "TankChain" "waterTold" "I", .fieldLink RX7 122 "TankChain$Pool" "water" "I", .methodLink RX7 91 yX7_tankAt, .instanceMethod yX7_tankAt, .selects RX7 yX7_tankAt yX7_tankAt, .initialized RX7, .code yX7_tankAt cX7_tankAt 2 (some (.object "TankChain$Tank")), .fieldLink RX7 75 "TankChain" "tanks" "[LTankChain$Tank;", .methodLink RX7 118 yX5_roomIf, .instanceMethod yX5_roomIf, .selects RX5 yX5_roomIf yX5_roomIf, .initialized RX5, .code yX5_roomIf cX5_roomIf 2 (some .int), .fieldLink RX5 25 "TankChain$Tank" "size" "I", .fieldLink RX5 31 "TankChain$Tank" "silt" "I", .methodLink RX7 95 yX7_isWithin, .static yX7_isWithin, .code yX7_isWithin cX7_isWithin 3 (some .boolean)] ++ wsX50 ++ wsX30 ++ wsX70)
def wsX7_field_r1 : List Cond := [Cond.fieldLink RX7 39 "TankChain" "fieldsThere" "I", Cond.fieldLink RX7 11 "TankChain" "fields" "[LTankChain$Field;", Cond.classLink RX7 9 RX1, Cond.instantiable RX1 12, Cond.initialized RX1, Cond.fieldLink RX7 25 "TankChain" "inForce" "LTankChain$Custom;", Cond.methodLink RX7 91 yX7_tankAt, Cond.instanceMethod yX7_tankAt, Cond.selects RX7 yX7_tankAt yX7_tankAt, Cond.initialized RX7, Cond.code yX7_tankAt cX7_tankAt 2 (some (.object "TankChain$Tank")), Cond.fieldLink RX7 75 "TankChain" "tanks" "[LTankChain$Tank;", Cond.methodLink RX7 95 yX7_isWithin, Cond.static yX7_isWithin, Cond.code yX7_isWithin cX7_isWithin 3 (some .boolean), Cond.methodLink RX7 125 yX1_init, Cond.instanceMethod yX1_init, Cond.code yX1_init cX1_init 7 none, Cond.methodLink RX1 1 objectInit, Cond.instanceMethod objectInit, Cond.code objectInit ⟨#[0xb1]⟩ 1 none, Cond.fieldLink RX1 7 "TankChain$Field" "next" "LTankChain$Field;", Cond.fieldLink RX1 13 "TankChain$Field" "share" "I", Cond.fieldLink RX1 17 "TankChain$Field" "remainder" "I"]
def wsX7_field_r2 : List Cond := [Cond.fieldLink RX1 20 "TankChain$Field" "daysFed" "I", Cond.fieldLink RX1 23 "TankChain$Field" "gotEver" "I", Cond.fieldLink RX1 26 "TankChain$Field" "gotLately" "I", Cond.fieldLink RX1 29 "TankChain$Field" "number" "I", Cond.fieldLink RX1 32 "TankChain$Field" "tank" "I", Cond.fieldLink RX1 35 "TankChain$Field" "far" "I", Cond.fieldLink RX1 38 "TankChain$Field" "area" "I", Cond.fieldLink RX1 41 "TankChain$Field" "owner" "I", Cond.fieldLink RX1 44 "TankChain$Field" "temple" "Z", Cond.methodLink RX7 128 yX5_putInOrder, Cond.instanceMethod yX5_putInOrder, Cond.selects RX5 yX5_putInOrder yX5_putInOrder, Cond.initialized RX5, Cond.code yX5_putInOrder cX5_putInOrder 5 none, Cond.fieldLink RX5 37 "TankChain$Tank" "firstField" "LTankChain$Field;", Cond.fieldLink RX5 54 "TankChain$Field" "next" "LTankChain$Field;", Cond.methodLink RX5 48 yX0_isAhead, Cond.instanceMethod yX0_isAhead, Cond.selects RX0 yX0_isAhead yX0_isAhead, Cond.initialized RX0, Cond.code yX0_isAhead cX0_isAhead 5 (some .boolean), Cond.fieldLink RX0 15 "TankChain$Custom" "firstsThere" "I", Cond.fieldLink RX0 9 "TankChain$Custom" "firsts" "[I", Cond.fieldLink RX0 43 "TankChain$Field" "number" "I"]
def wsX7_field_r3 : List Cond := [Cond.methodLink RX0 39 yX0_rank, Cond.static yX0_rank, Cond.code yX0_rank cX0_rank 2 (some .int), Cond.fieldLink RX0 48 "TankChain$Field" "temple" "Z", Cond.fieldLink RX0 51 "TankChain$Field" "area" "I", Cond.fieldLink RX0 54 "TankChain$Field" "far" "I"]
def wsX7_field : List Cond := .code yX7_field cX7_field 10 (some .int) :: ((wsX7_field_r1 ++ (wsX7_field_r2 ++ wsX7_field_r3)) ++ wsX70 ++ wsX10 ++ wsX50 ++ wsX00)
def wsX7_open : List Cond := .code yX7_open cX7_open 4 (some .boolean) :: ([.fieldLink RX7 108 "TankChain$Tank" "now" "LTankChain$Pool;", .fieldLink RX7 132 "TankChain$Pool" "opening" "I", .methodLink RX7 91 yX7_tankAt, .instanceMethod yX7_tankAt, .selects RX7 yX7_tankAt yX7_tankAt, .initialized RX7, .code yX7_tankAt cX7_tankAt 2 (some (.object "TankChain$Tank")), .fieldLink RX7 75 "TankChain" "tanks" "[LTankChain$Tank;", .methodLink RX7 95 yX7_isWithin, .static yX7_isWithin, .code yX7_isWithin cX7_isWithin 3 (some .boolean)] ++ wsX50 ++ wsX30 ++ wsX70)
def wsX7_mend : List Cond := .code yX7_mend cX7_mend 4 (some .boolean) :: ([.fieldLink RX7 108 "TankChain$Tank" "now" "LTankChain$Pool;", .fieldLink RX7 112 "TankChain$Pool" "breached" "Z", .fieldLink RX7 105 "TankChain$Tank" "bank" "I", .methodLink RX7 91 yX7_tankAt, .instanceMethod yX7_tankAt, .selects RX7 yX7_tankAt yX7_tankAt, .initialized RX7, .code yX7_tankAt cX7_tankAt 2 (some (.object "TankChain$Tank")), .fieldLink RX7 75 "TankChain" "tanks" "[LTankChain$Tank;", .methodLink RX7 95 yX7_isWithin, .static yX7_isWithin, .code yX7_isWithin cX7_isWithin 3 (some .boolean)] ++ wsX50 ++ wsX30 ++ wsX70)
def wsX7_dredge : List Cond := .code yX7_dredge cX7_dredge 4 (some .int) :: ([.fieldLink RX7 135 "TankChain$Tank" "silt" "I", .methodLink RX7 91 yX7_tankAt, .instanceMethod yX7_tankAt, .selects RX7 yX7_tankAt yX7_tankAt, .initialized RX7, .code yX7_tankAt cX7_tankAt 2 (some (.object "TankChain$Tank")), .fieldLink RX7 75 "TankChain" "tanks" "[LTankChain$Tank;", .methodLink RX7 95 yX7_isWithin, .static yX7_isWithin, .code yX7_isWithin cX7_isWithin 3 (some .boolean)] ++ wsX50 ++ wsX70)
def wsX7_feed : List Cond := .code yX7_feed cX7_feed 6 (some .int) :: ([.fieldLink RX7 18 "TankChain" "tape" "LTankChain$Tape;", .fieldLink RX7 138 "TankChain$Tape" "held" "I", .methodLink RX7 141 yX6_putFour, .instanceMethod yX6_putFour, .selects RX6 yX6_putFour yX6_putFour, .initialized RX6, .code yX6_putFour cX6_putFour 2 none, .methodLink RX6 31 yX6_putByte, .instanceMethod yX6_putByte, .selects RX6 yX6_putByte yX6_putByte, .code yX6_putByte cX6_putByte 2 none, .fieldLink RX6 15 "TankChain$Tape" "held" "I", .fieldLink RX6 9 "TankChain$Tape" "bytes" "[B"] ++ wsX70 ++ wsX60)
def wsX7_fieldAt : List Cond := .code yX7_fieldAt cX7_fieldAt 2 (some (.object "TankChain$Field")) :: ([.fieldLink RX7 11 "TankChain" "fields" "[LTankChain$Field;"] ++ wsX70)
def wsX7_orderAnew_r1 : List Cond := [Cond.fieldLink RX7 87 "TankChain" "flow" "LTankChain$Flow;", Cond.fieldLink RX7 267 "TankChain$Flow" "head" "LTankChain$Tank;", Cond.fieldLink RX7 225 "TankChain$Tank" "firstField" "LTankChain$Field;", Cond.fieldLink RX7 271 "TankChain$Tank" "below" "LTankChain$Tank;", Cond.fieldLink RX7 39 "TankChain" "fieldsThere" "I", Cond.fieldLink RX7 201 "TankChain$Field" "tank" "I", Cond.fieldLink RX7 25 "TankChain" "inForce" "LTankChain$Custom;", Cond.methodLink RX7 197 yX7_fieldAt, Cond.instanceMethod yX7_fieldAt, Cond.selects RX7 yX7_fieldAt yX7_fieldAt, Cond.initialized RX7, Cond.code yX7_fieldAt cX7_fieldAt 2 (some (.object "TankChain$Field")), Cond.fieldLink RX7 11 "TankChain" "fields" "[LTankChain$Field;", Cond.methodLink RX7 91 yX7_tankAt, Cond.instanceMethod yX7_tankAt, Cond.selects RX7 yX7_tankAt yX7_tankAt, Cond.code yX7_tankAt cX7_tankAt 2 (some (.object "TankChain$Tank")), Cond.fieldLink RX7 75 "TankChain" "tanks" "[LTankChain$Tank;", Cond.methodLink RX7 128 yX5_putInOrder, Cond.instanceMethod yX5_putInOrder, Cond.selects RX5 yX5_putInOrder yX5_putInOrder, Cond.initialized RX5, Cond.code yX5_putInOrder cX5_putInOrder 5 none, Cond.fieldLink RX5 37 "TankChain$Tank" "firstField" "LTankChain$Field;"]
def wsX7_orderAnew_r2 : List Cond := [Cond.fieldLink RX5 54 "TankChain$Field" "next" "LTankChain$Field;", Cond.methodLink RX5 48 yX0_isAhead, Cond.instanceMethod yX0_isAhead, Cond.selects RX0 yX0_isAhead yX0_isAhead, Cond.initialized RX0, Cond.code yX0_isAhead cX0_isAhead 5 (some .boolean), Cond.fieldLink RX0 15 "TankChain$Custom" "firstsThere" "I", Cond.fieldLink RX0 9 "TankChain$Custom" "firsts" "[I", Cond.fieldLink RX0 43 "TankChain$Field" "number" "I", Cond.methodLink RX0 39 yX0_rank, Cond.static yX0_rank, Cond.code yX0_rank cX0_rank 2 (some .int), Cond.fieldLink RX0 48 "TankChain$Field" "temple" "Z", Cond.fieldLink RX0 51 "TankChain$Field" "area" "I", Cond.fieldLink RX0 54 "TankChain$Field" "far" "I"]
def wsX7_orderAnew : List Cond := .code yX7_orderAnew cX7_orderAnew 4 none :: ((wsX7_orderAnew_r1 ++ wsX7_orderAnew_r2) ++ wsX70 ++ wsX20 ++ wsX50 ++ wsX10 ++ wsX00)
def wsX7_custom_r1 : List Cond := [Cond.fieldLink RX7 18 "TankChain" "tape" "LTankChain$Tape;", Cond.fieldLink RX7 138 "TankChain$Tape" "held" "I", Cond.fieldLink RX7 29 "TankChain" "draft" "LTankChain$Custom;", Cond.fieldLink RX7 52 "TankChain" "faultPlace" "I", Cond.fieldLink RX7 25 "TankChain" "inForce" "LTankChain$Custom;", Cond.fieldLink RX7 156 "TankChain$Custom" "statements" "I", Cond.methodLink RX7 95 yX7_isWithin, Cond.static yX7_isWithin, Cond.initialized RX7, Cond.code yX7_isWithin cX7_isWithin 3 (some .boolean), Cond.methodLink RX7 145 yX6_faultReading, Cond.instanceMethod yX6_faultReading, Cond.selects RX6 yX6_faultReading yX6_faultReading, Cond.initialized RX6, Cond.code yX6_faultReading cX6_faultReading 3 (some .int), Cond.fieldLink RX6 19 "TankChain$Tape" "length" "I", Cond.fieldLink RX6 28 "TankChain$Tape" "end" "I", Cond.fieldLink RX6 22 "TankChain$Tape" "kind" "I", Cond.fieldLink RX6 43 "TankChain$Custom" "statements" "I", Cond.fieldLink RX6 25 "TankChain$Tape" "begin" "I", Cond.methodLink RX6 35 yX0_clear, Cond.instanceMethod yX0_clear, Cond.selects RX0 yX0_clear yX0_clear, Cond.initialized RX0]
def wsX7_custom_r2 : List Cond := [Cond.code yX0_clear cX0_clear 1 none, Cond.fieldLink RX0 15 "TankChain$Custom" "firstsThere" "I", Cond.fieldLink RX0 19 "TankChain$Custom" "near" "I", Cond.fieldLink RX0 22 "TankChain$Custom" "hold" "I", Cond.fieldLink RX0 25 "TankChain$Custom" "fair" "Z", Cond.fieldLink RX0 29 "TankChain$Custom" "statements" "I", Cond.methodLink RX6 40 yX6_nextToken, Cond.instanceMethod yX6_nextToken, Cond.selects RX6 yX6_nextToken yX6_nextToken, Cond.code yX6_nextToken cX6_nextToken 1 none, Cond.methodLink RX6 87 yX6_byteAt, Cond.instanceMethod yX6_byteAt, Cond.selects RX6 yX6_byteAt yX6_byteAt, Cond.code yX6_byteAt cX6_byteAt 2 (some .int), Cond.fieldLink RX6 9 "TankChain$Tape" "bytes" "[B", Cond.methodLink RX6 95 yX6_isBlank, Cond.static yX6_isBlank, Cond.code yX6_isBlank cX6_isBlank 1 (some .boolean), Cond.methodLink RX6 99 yX6_isLetter, Cond.static yX6_isLetter, Cond.code yX6_isLetter cX6_isLetter 1 (some .boolean), Cond.methodLink RX6 102 yX6_isDigit, Cond.static yX6_isDigit, Cond.code yX6_isDigit cX6_isDigit 1 (some .boolean)]
def wsX7_custom_r3 : List Cond := [Cond.methodLink RX6 46 yX6_readStatement, Cond.instanceMethod yX6_readStatement, Cond.selects RX6 yX6_readStatement yX6_readStatement, Cond.code yX6_readStatement cX6_readStatement 3 (some .boolean), Cond.fieldLink RX6 65 "TankChain$Custom" "near" "I", Cond.fieldLink RX6 69 "TankChain$Custom" "hold" "I", Cond.fieldLink RX6 73 "TankChain$Custom" "fair" "Z", Cond.methodLink RX6 52 yX6_isWord, Cond.instanceMethod yX6_isWord, Cond.selects RX6 yX6_isWord yX6_isWord, Cond.code yX6_isWord cX6_isWord 3 (some .boolean), Cond.methodLink RX6 83 yJ0_length_8abf5, Cond.instanceMethod yJ0_length_8abf5, Cond.selects RJ0 yJ0_length_8abf5 yJ0_length_8abf5, Cond.initialized RJ0, Cond.code yJ0_length_8abf5 cJ0_length_8abf5 1 (some .int), Cond.fieldLink RJ0 9 "java/lang/String" "value" "[B", Cond.methodLink RJ0 335 yJ0_coder_7d493, Cond.instanceMethod yJ0_coder_7d493, Cond.selects RJ0 yJ0_coder_7d493 yJ0_coder_7d493, Cond.code yJ0_coder_7d493 cJ0_coder_7d493 1 (some .byte), Cond.fieldLink RJ0 38 "java/lang/String" "COMPACT_STRINGS" "Z", Cond.fieldLink RJ0 15 "java/lang/String" "coder" "B", Cond.methodLink RX6 91 yJ0_charAt_5068e]
def wsX7_custom_r4 : List Cond := [Cond.instanceMethod yJ0_charAt_5068e, Cond.selects RJ0 yJ0_charAt_5068e yJ0_charAt_5068e, Cond.code yJ0_charAt_5068e cJ0_charAt_5068e 2 (some .char), Cond.methodLink RJ0 492 yJ0_isLatin1_aae02, Cond.instanceMethod yJ0_isLatin1_aae02, Cond.selects RJ0 yJ0_isLatin1_aae02 yJ0_isLatin1_aae02, Cond.code yJ0_isLatin1_aae02 cJ0_isLatin1_aae02 1 (some .boolean), Cond.methodLink RJ0 495 yJ1_charAt_3b067, Cond.static yJ1_charAt_3b067, Cond.initialized RJ1, Cond.code yJ1_charAt_3b067 cJ1_charAt_3b067 2 (some .char), Cond.methodLink RJ1 9 yJ0_checkIndex_df160, Cond.static yJ0_checkIndex_df160, Cond.code yJ0_checkIndex_df160 cJ0_checkIndex_df160 2 none, Cond.fieldLink RJ0 1053 "jdk/internal/util/Preconditions" "SIOOBE_FORMATTER" "Ljava/util/function/BiFunction;", Cond.methodLink RJ0 1059 yJ3_checkIndex_8e157, Cond.static yJ3_checkIndex_8e157, Cond.initialized RJ3, Cond.code yJ3_checkIndex_8e157 cJ3_checkIndex_8e157 3 (some .int), Cond.methodLink RJ0 498 yJ2_charAt_3b067, Cond.static yJ2_charAt_3b067, Cond.initialized RJ2, Cond.code yJ2_charAt_3b067 cJ2_charAt_3b067 2 (some .char), Cond.methodLink RJ2 67 yJ2_checkIndex_2214a]
def wsX7_custom_r5 : List Cond := [Cond.static yJ2_checkIndex_2214a, Cond.code yJ2_checkIndex_2214a cJ2_checkIndex_2214a 2 none, Cond.methodLink RJ2 48 yJ2_length_9d52b, Cond.static yJ2_length_9d52b, Cond.code yJ2_length_9d52b cJ2_length_9d52b 1 (some .int), Cond.methodLink RJ2 414 yJ0_checkIndex_df160, Cond.methodLink RJ2 71 yJ2_getChar_3b067, Cond.static yJ2_getChar_3b067, Cond.code yJ2_getChar_3b067 cJ2_getChar_3b067 2 (some .char), Cond.fieldLink RJ2 44 "java/lang/StringUTF16" "$assertionsDisabled" "Z", Cond.fieldLink RJ2 59 "java/lang/StringUTF16" "HI_BYTE_SHIFT" "I", Cond.fieldLink RJ2 63 "java/lang/StringUTF16" "LO_BYTE_SHIFT" "I", Cond.methodLink RX6 56 yX6_readFirst, Cond.instanceMethod yX6_readFirst, Cond.selects RX6 yX6_readFirst yX6_readFirst, Cond.code yX6_readFirst cX6_readFirst 2 (some .boolean), Cond.methodLink RX6 78 yX0_addFirst, Cond.instanceMethod yX0_addFirst, Cond.selects RX0 yX0_addFirst yX0_addFirst, Cond.code yX0_addFirst cX0_addFirst 2 none, Cond.fieldLink RX0 9 "TankChain$Custom" "firsts" "[I", Cond.methodLink RX6 61 yX6_numberHere, Cond.instanceMethod yX6_numberHere, Cond.selects RX6 yX6_numberHere yX6_numberHere]
def wsX7_custom_r6 : List Cond := [Cond.code yX6_numberHere cX6_numberHere 3 (some .int), Cond.methodLink RX7 149 yX0_becomeAs, Cond.instanceMethod yX0_becomeAs, Cond.selects RX0 yX0_becomeAs yX0_becomeAs, Cond.code yX0_becomeAs cX0_becomeAs 3 none, Cond.methodLink RX0 32 yX0_clear, Cond.methodLink RX0 35 yX0_addFirst, Cond.methodLink RX7 153 yX7_orderAnew, Cond.instanceMethod yX7_orderAnew, Cond.selects RX7 yX7_orderAnew yX7_orderAnew, Cond.code yX7_orderAnew cX7_orderAnew 4 none, Cond.fieldLink RX7 87 "TankChain" "flow" "LTankChain$Flow;", Cond.fieldLink RX7 267 "TankChain$Flow" "head" "LTankChain$Tank;", Cond.fieldLink RX7 225 "TankChain$Tank" "firstField" "LTankChain$Field;", Cond.fieldLink RX7 271 "TankChain$Tank" "below" "LTankChain$Tank;", Cond.fieldLink RX7 39 "TankChain" "fieldsThere" "I", Cond.fieldLink RX7 201 "TankChain$Field" "tank" "I", Cond.methodLink RX7 197 yX7_fieldAt, Cond.instanceMethod yX7_fieldAt, Cond.selects RX7 yX7_fieldAt yX7_fieldAt, Cond.code yX7_fieldAt cX7_fieldAt 2 (some (.object "TankChain$Field")), Cond.fieldLink RX7 11 "TankChain" "fields" "[LTankChain$Field;", Cond.methodLink RX7 91 yX7_tankAt, Cond.instanceMethod yX7_tankAt]
def wsX7_custom_r7 : List Cond := [Cond.selects RX7 yX7_tankAt yX7_tankAt, Cond.code yX7_tankAt cX7_tankAt 2 (some (.object "TankChain$Tank")), Cond.fieldLink RX7 75 "TankChain" "tanks" "[LTankChain$Tank;", Cond.methodLink RX7 128 yX5_putInOrder, Cond.instanceMethod yX5_putInOrder, Cond.selects RX5 yX5_putInOrder yX5_putInOrder, Cond.initialized RX5, Cond.code yX5_putInOrder cX5_putInOrder 5 none, Cond.fieldLink RX5 37 "TankChain$Tank" "firstField" "LTankChain$Field;", Cond.fieldLink RX5 54 "TankChain$Field" "next" "LTankChain$Field;", Cond.methodLink RX5 48 yX0_isAhead, Cond.instanceMethod yX0_isAhead, Cond.selects RX0 yX0_isAhead yX0_isAhead, Cond.code yX0_isAhead cX0_isAhead 5 (some .boolean), Cond.fieldLink RX0 43 "TankChain$Field" "number" "I", Cond.methodLink RX0 39 yX0_rank, Cond.static yX0_rank, Cond.code yX0_rank cX0_rank 2 (some .int), Cond.fieldLink RX0 48 "TankChain$Field" "temple" "Z", Cond.fieldLink RX0 51 "TankChain$Field" "area" "I", Cond.fieldLink RX0 54 "TankChain$Field" "far" "I"]
def wsX7_custom : List Cond := .code yX7_custom cX7_custom 2 (some .int) :: ((wsX7_custom_r1 ++ (wsX7_custom_r2 ++ (wsX7_custom_r3 ++ (wsX7_custom_r4 ++ (wsX7_custom_r5 ++ (wsX7_custom_r6 ++ wsX7_custom_r7)))))) ++ wsX70 ++ wsX60 ++ wsX00 ++ wsX20 ++ wsX50 ++ wsX10)
def wsX7_fault : List Cond := .code yX7_fault cX7_fault 1 (some .int) :: ([.fieldLink RX7 52 "TankChain" "faultPlace" "I"] ++ wsX70)
def wsX7_addSilt : List Cond := .code yX7_addSilt cX7_addSilt 2 none :: ([.fieldLink RX7 87 "TankChain" "flow" "LTankChain$Flow;", .fieldLink RX7 267 "TankChain$Flow" "head" "LTankChain$Tank;", .fieldLink RX7 102 "TankChain$Tank" "size" "I", .fieldLink RX7 135 "TankChain$Tank" "silt" "I", .methodLink RX7 64 Lib.Math.min.name, .static Lib.Math.min.name, .initialized "java/lang/Math", .code Lib.Math.min.name Lib.Math.min.code 2 (some .int), .fieldLink RX7 271 "TankChain$Tank" "below" "LTankChain$Tank;"] ++ wsX70 ++ wsX20 ++ wsX50)
def wsX7_keepTanks : List Cond := .code yX7_keepTanks cX7_keepTanks 4 none :: ([.fieldLink RX7 87 "TankChain" "flow" "LTankChain$Flow;", .fieldLink RX7 267 "TankChain$Flow" "head" "LTankChain$Tank;", .fieldLink RX7 274 "TankChain$Tank" "after" "LTankChain$Pool;", .fieldLink RX7 112 "TankChain$Pool" "breached" "Z", .fieldLink RX7 108 "TankChain$Tank" "now" "LTankChain$Pool;", .fieldLink RX7 43 "TankChain" "daysGone" "I", .fieldLink RX7 190 "TankChain$Tank" "breachedOn" "I", .fieldLink RX7 277 "TankChain$Tank" "number" "I", .fieldLink RX7 271 "TankChain$Tank" "below" "LTankChain$Tank;", .fieldLink RX7 55 "TankChain" "breachDay" "I", .fieldLink RX7 58 "TankChain" "breachFirst" "I", .fieldLink RX7 61 "TankChain" "breachTanks" "I", .methodLink RX7 278 yX3_becomeAs, .instanceMethod yX3_becomeAs, .selects RX3 yX3_becomeAs yX3_becomeAs, .initialized RX3, .code yX3_becomeAs cX3_becomeAs 2 none, .fieldLink RX3 7 "TankChain$Pool" "water" "I", .fieldLink RX3 13 "TankChain$Pool" "opening" "I", .fieldLink RX3 16 "TankChain$Pool" "breached" "Z", .fieldLink RX3 20 "TankChain$Pool" "taken" "I", .fieldLink RX3 23 "TankChain$Pool" "spilt" "I"] ++ wsX70 ++ wsX20 ++ wsX50 ++ wsX30)
def wsX7_keepFields : List Cond := .code yX7_keepFields cX7_keepFields 3 none :: ([.fieldLink RX7 39 "TankChain" "fieldsThere" "I", .methodLink RX7 197 yX7_fieldAt, .instanceMethod yX7_fieldAt, .selects RX7 yX7_fieldAt yX7_fieldAt, .initialized RX7, .code yX7_fieldAt cX7_fieldAt 2 (some (.object "TankChain$Field")), .fieldLink RX7 11 "TankChain" "fields" "[LTankChain$Field;", .methodLink RX7 281 yX1_keepShare, .instanceMethod yX1_keepShare, .selects RX1 yX1_keepShare yX1_keepShare, .initialized RX1, .code yX1_keepShare cX1_keepShare 1 none, .fieldLink RX1 13 "TankChain$Field" "share" "I", .fieldLink RX1 26 "TankChain$Field" "gotLately" "I", .fieldLink RX1 23 "TankChain$Field" "gotEver" "I", .fieldLink RX1 20 "TankChain$Field" "daysFed" "I", .methodLink RX1 48 yX1_isFed, .instanceMethod yX1_isFed, .selects RX1 yX1_isFed yX1_isFed, .code yX1_isFed cX1_isFed 1 (some .boolean), .fieldLink RX1 38 "TankChain$Field" "area" "I"] ++ wsX70 ++ wsX10)
def wsX7_day_r1 : List Cond := [Cond.fieldLink RX7 43 "TankChain" "daysGone" "I", Cond.fieldLink RX7 46 "TankChain" "lastRain" "I", Cond.fieldLink RX7 87 "TankChain" "flow" "LTankChain$Flow;", Cond.fieldLink RX7 35 "TankChain" "ever" "LTankChain$Sums;", Cond.fieldLink RX7 174 "TankChain$Flow" "sums" "LTankChain$Sums;", Cond.methodLink RX7 95 yX7_isWithin, Cond.static yX7_isWithin, Cond.initialized RX7, Cond.code yX7_isWithin cX7_isWithin 3 (some .boolean), Cond.methodLink RX7 159 yX7_addSilt, Cond.instanceMethod yX7_addSilt, Cond.selects RX7 yX7_addSilt yX7_addSilt, Cond.code yX7_addSilt cX7_addSilt 2 none, Cond.fieldLink RX7 267 "TankChain$Flow" "head" "LTankChain$Tank;", Cond.fieldLink RX7 102 "TankChain$Tank" "size" "I", Cond.fieldLink RX7 135 "TankChain$Tank" "silt" "I", Cond.methodLink RX7 64 Lib.Math.min.name, Cond.static Lib.Math.min.name, Cond.initialized "java/lang/Math", Cond.code Lib.Math.min.name Lib.Math.min.code 2 (some .int), Cond.fieldLink RX7 271 "TankChain$Tank" "below" "LTankChain$Tank;", Cond.methodLink RX7 162 yX2_startFromNow, Cond.instanceMethod yX2_startFromNow, Cond.selects RX2 yX2_startFromNow yX2_startFromNow]
def wsX7_day_r2 : List Cond := [Cond.initialized RX2, Cond.code yX2_startFromNow cX2_startFromNow 2 none, Cond.fieldLink RX2 22 "TankChain$Flow" "head" "LTankChain$Tank;", Cond.fieldLink RX2 30 "TankChain$Tank" "after" "LTankChain$Pool;", Cond.fieldLink RX2 36 "TankChain$Tank" "now" "LTankChain$Pool;", Cond.fieldLink RX2 45 "TankChain$Tank" "below" "LTankChain$Tank;", Cond.methodLink RX2 39 yX3_becomeAs, Cond.instanceMethod yX3_becomeAs, Cond.selects RX3 yX3_becomeAs yX3_becomeAs, Cond.initialized RX3, Cond.code yX3_becomeAs cX3_becomeAs 2 none, Cond.fieldLink RX3 7 "TankChain$Pool" "water" "I", Cond.fieldLink RX3 13 "TankChain$Pool" "opening" "I", Cond.fieldLink RX3 16 "TankChain$Pool" "breached" "Z", Cond.fieldLink RX3 20 "TankChain$Pool" "taken" "I", Cond.fieldLink RX3 23 "TankChain$Pool" "spilt" "I", Cond.methodLink RX7 165 yX2_passDay, Cond.instanceMethod yX2_passDay, Cond.selects RX2 yX2_passDay yX2_passDay, Cond.code yX2_passDay cX2_passDay 4 none, Cond.fieldLink RX2 12 "TankChain$Flow" "sums" "LTankChain$Sums;", Cond.fieldLink RX2 18 "TankChain$Flow" "areasFed" "I", Cond.fieldLink RX2 51 "TankChain$Tank" "catches" "I", Cond.fieldLink RX2 58 "TankChain$Sums" "out" "I"]
def wsX7_day_r3 : List Cond := [Cond.methodLink RX2 48 yX4_clear, Cond.instanceMethod yX4_clear, Cond.selects RX4 yX4_clear yX4_clear, Cond.initialized RX4, Cond.code yX4_clear cX4_clear 1 none, Cond.fieldLink RX4 7 "TankChain$Sums" "rained" "I", Cond.fieldLink RX4 13 "TankChain$Sums" "seeped" "I", Cond.fieldLink RX4 16 "TankChain$Sums" "kept" "I", Cond.fieldLink RX4 19 "TankChain$Sums" "out" "I", Cond.methodLink RX2 54 yX2_sentDown, Cond.instanceMethod yX2_sentDown, Cond.selects RX2 yX2_sentDown yX2_sentDown, Cond.code yX2_sentDown cX2_sentDown 10 (some .int), Cond.fieldLink RX2 61 "TankChain$Pool" "water" "I", Cond.fieldLink RX2 68 "TankChain$Pool" "breached" "Z", Cond.methodLink RX2 76 Lib.Math.max.name, Cond.static Lib.Math.max.name, Cond.code Lib.Math.max.name Lib.Math.max.code 2 (some .int), Cond.fieldLink RX2 82 "TankChain$Tank" "bank" "I", Cond.fieldLink RX2 85 "TankChain$Pool" "taken" "I", Cond.fieldLink RX2 88 "TankChain$Pool" "spilt" "I", Cond.fieldLink RX2 91 "TankChain$Sums" "rained" "I", Cond.fieldLink RX2 94 "TankChain$Sums" "seeped" "I", Cond.fieldLink RX2 97 "TankChain$Sums" "kept" "I"]
def wsX7_day_r4 : List Cond := [Cond.methodLink RX2 64 yX2_takenByFields, Cond.instanceMethod yX2_takenByFields, Cond.selects RX2 yX2_takenByFields yX2_takenByFields, Cond.code yX2_takenByFields cX2_takenByFields 9 (some .int), Cond.fieldLink RX2 100 "TankChain$Tank" "size" "I", Cond.fieldLink RX2 26 "TankChain$Flow" "custom" "LTankChain$Custom;", Cond.fieldLink RX2 103 "TankChain$Custom" "hold" "I", Cond.fieldLink RX2 108 "TankChain$Pool" "opening" "I", Cond.methodLink RX2 111 Lib.Math.min.name, Cond.fieldLink RX2 118 "TankChain$Custom" "near" "I", Cond.fieldLink RX2 124 "TankChain$Custom" "fair" "Z", Cond.fieldLink RX2 135 "TankChain$Tank" "firstField" "LTankChain$Field;", Cond.fieldLink RX2 139 "TankChain$Field" "share" "I", Cond.fieldLink RX2 148 "TankChain$Field" "area" "I", Cond.fieldLink RX2 151 "TankChain$Field" "next" "LTankChain$Field;", Cond.methodLink RX2 114 yX5_isBadYearWith, Cond.instanceMethod yX5_isBadYearWith, Cond.selects RX5 yX5_isBadYearWith yX5_isBadYearWith, Cond.initialized RX5, Cond.code yX5_isBadYearWith cX5_isBadYearWith 2 (some .boolean), Cond.fieldLink RX5 25 "TankChain$Tank" "size" "I", Cond.methodLink RX2 121 yX2_areasWithin, Cond.static yX2_areasWithin, Cond.code yX2_areasWithin cX2_areasWithin 4 (some .int)]
def wsX7_day_r5 : List Cond := [Cond.fieldLink RX2 154 "TankChain$Field" "far" "I", Cond.methodLink RX2 127 yX2_shareFairly, Cond.static yX2_shareFairly, Cond.code yX2_shareFairly cX2_shareFairly 7 none, Cond.fieldLink RX2 157 "TankChain$Field" "remainder" "I", Cond.methodLink RX2 160 yX2_giveOneMore, Cond.static yX2_giveOneMore, Cond.code yX2_giveOneMore cX2_giveOneMore 4 none, Cond.methodLink RX2 131 yX2_shareInOrder, Cond.static yX2_shareInOrder, Cond.code yX2_shareInOrder cX2_shareInOrder 5 none, Cond.methodLink RX2 144 yX1_isFed, Cond.instanceMethod yX1_isFed, Cond.selects RX1 yX1_isFed yX1_isFed, Cond.initialized RX1, Cond.code yX1_isFed cX1_isFed 1 (some .boolean), Cond.fieldLink RX1 13 "TankChain$Field" "share" "I", Cond.fieldLink RX1 38 "TankChain$Field" "area" "I", Cond.methodLink RX2 72 yX5_roomIf, Cond.instanceMethod yX5_roomIf, Cond.selects RX5 yX5_roomIf yX5_roomIf, Cond.code yX5_roomIf cX5_roomIf 2 (some .int), Cond.fieldLink RX5 31 "TankChain$Tank" "silt" "I", Cond.methodLink RX7 168 yX7_keepTanks]
def wsX7_day_r6 : List Cond := [Cond.instanceMethod yX7_keepTanks, Cond.selects RX7 yX7_keepTanks yX7_keepTanks, Cond.code yX7_keepTanks cX7_keepTanks 4 none, Cond.fieldLink RX7 274 "TankChain$Tank" "after" "LTankChain$Pool;", Cond.fieldLink RX7 112 "TankChain$Pool" "breached" "Z", Cond.fieldLink RX7 108 "TankChain$Tank" "now" "LTankChain$Pool;", Cond.fieldLink RX7 190 "TankChain$Tank" "breachedOn" "I", Cond.fieldLink RX7 277 "TankChain$Tank" "number" "I", Cond.fieldLink RX7 55 "TankChain" "breachDay" "I", Cond.fieldLink RX7 58 "TankChain" "breachFirst" "I", Cond.fieldLink RX7 61 "TankChain" "breachTanks" "I", Cond.methodLink RX7 278 yX3_becomeAs, Cond.methodLink RX7 171 yX7_keepFields, Cond.instanceMethod yX7_keepFields, Cond.selects RX7 yX7_keepFields yX7_keepFields, Cond.code yX7_keepFields cX7_keepFields 3 none, Cond.fieldLink RX7 39 "TankChain" "fieldsThere" "I", Cond.methodLink RX7 197 yX7_fieldAt, Cond.instanceMethod yX7_fieldAt, Cond.selects RX7 yX7_fieldAt yX7_fieldAt, Cond.code yX7_fieldAt cX7_fieldAt 2 (some (.object "TankChain$Field")), Cond.fieldLink RX7 11 "TankChain" "fields" "[LTankChain$Field;", Cond.methodLink RX7 281 yX1_keepShare, Cond.instanceMethod yX1_keepShare]
def wsX7_day_r7 : List Cond := [Cond.selects RX1 yX1_keepShare yX1_keepShare, Cond.code yX1_keepShare cX1_keepShare 1 none, Cond.fieldLink RX1 26 "TankChain$Field" "gotLately" "I", Cond.fieldLink RX1 23 "TankChain$Field" "gotEver" "I", Cond.fieldLink RX1 20 "TankChain$Field" "daysFed" "I", Cond.methodLink RX1 48 yX1_isFed, Cond.methodLink RX7 177 yX4_addAll, Cond.instanceMethod yX4_addAll, Cond.selects RX4 yX4_addAll yX4_addAll, Cond.code yX4_addAll cX4_addAll 2 none]
def wsX7_day : List Cond := .code yX7_day cX7_day 3 (some .int) :: ((wsX7_day_r1 ++ (wsX7_day_r2 ++ (wsX7_day_r3 ++ (wsX7_day_r4 ++ (wsX7_day_r5 ++ (wsX7_day_r6 ++ wsX7_day_r7)))))) ++ wsX70 ++ wsX20 ++ wsX50 ++ wsX30 ++ wsX40 ++ wsX00 ++ wsX10)
def wsX7_asNumber : List Cond := .code yX7_asNumber cX7_asNumber 1 (some .int) :: ([])
def wsX7_told_r1 : List Cond := [Cond.fieldLink RX7 99 "TankChain$Tank" "catches" "I", Cond.fieldLink RX7 102 "TankChain$Tank" "size" "I", Cond.fieldLink RX7 105 "TankChain$Tank" "bank" "I", Cond.fieldLink RX7 108 "TankChain$Tank" "now" "LTankChain$Pool;", Cond.fieldLink RX7 122 "TankChain$Pool" "water" "I", Cond.fieldLink RX7 132 "TankChain$Pool" "opening" "I", Cond.fieldLink RX7 135 "TankChain$Tank" "silt" "I", Cond.fieldLink RX7 112 "TankChain$Pool" "breached" "Z", Cond.fieldLink RX7 184 "TankChain$Pool" "taken" "I", Cond.fieldLink RX7 187 "TankChain$Pool" "spilt" "I", Cond.fieldLink RX7 190 "TankChain$Tank" "breachedOn" "I", Cond.methodLink RX7 91 yX7_tankAt, Cond.instanceMethod yX7_tankAt, Cond.selects RX7 yX7_tankAt yX7_tankAt, Cond.initialized RX7, Cond.code yX7_tankAt cX7_tankAt 2 (some (.object "TankChain$Tank")), Cond.fieldLink RX7 75 "TankChain" "tanks" "[LTankChain$Tank;", Cond.methodLink RX7 181 yX7_asNumber, Cond.static yX7_asNumber, Cond.code yX7_asNumber cX7_asNumber 1 (some .int), Cond.methodLink RX7 118 yX5_roomIf, Cond.instanceMethod yX5_roomIf, Cond.selects RX5 yX5_roomIf yX5_roomIf, Cond.initialized RX5]
def wsX7_told_r2 : List Cond := [Cond.code yX5_roomIf cX5_roomIf 2 (some .int), Cond.fieldLink RX5 25 "TankChain$Tank" "size" "I", Cond.fieldLink RX5 31 "TankChain$Tank" "silt" "I", Cond.methodLink RX7 193 yX5_isBadYearWith, Cond.instanceMethod yX5_isBadYearWith, Cond.selects RX5 yX5_isBadYearWith yX5_isBadYearWith, Cond.code yX5_isBadYearWith cX5_isBadYearWith 2 (some .boolean)]
def wsX7_told : List Cond := .code yX7_told cX7_told 4 (some .int) :: ((wsX7_told_r1 ++ wsX7_told_r2) ++ wsX50 ++ wsX30 ++ wsX70)
def wsX7_fieldOf : List Cond := .code yX7_fieldOf cX7_fieldOf 4 (some .int) :: ([.fieldLink RX7 201 "TankChain$Field" "tank" "I", .fieldLink RX7 204 "TankChain$Field" "far" "I", .fieldLink RX7 207 "TankChain$Field" "area" "I", .fieldLink RX7 210 "TankChain$Field" "owner" "I", .fieldLink RX7 213 "TankChain$Field" "temple" "Z", .fieldLink RX7 216 "TankChain$Field" "daysFed" "I", .fieldLink RX7 219 "TankChain$Field" "gotEver" "I", .fieldLink RX7 222 "TankChain$Field" "gotLately" "I", .methodLink RX7 197 yX7_fieldAt, .instanceMethod yX7_fieldAt, .selects RX7 yX7_fieldAt yX7_fieldAt, .initialized RX7, .code yX7_fieldAt cX7_fieldAt 2 (some (.object "TankChain$Field")), .fieldLink RX7 11 "TankChain" "fields" "[LTankChain$Field;", .methodLink RX7 181 yX7_asNumber, .static yX7_asNumber, .code yX7_asNumber cX7_asNumber 1 (some .int)] ++ wsX10 ++ wsX70)
def wsX7_order : List Cond := .code yX7_order cX7_order 6 (some .int) :: ([.fieldLink RX7 225 "TankChain$Tank" "firstField" "LTankChain$Field;", .fieldLink RX7 229 "TankChain$Field" "number" "I", .fieldLink RX7 232 "TankChain$Field" "next" "LTankChain$Field;", .methodLink RX7 91 yX7_tankAt, .instanceMethod yX7_tankAt, .selects RX7 yX7_tankAt yX7_tankAt, .initialized RX7, .code yX7_tankAt cX7_tankAt 2 (some (.object "TankChain$Tank")), .fieldLink RX7 75 "TankChain" "tanks" "[LTankChain$Tank;"] ++ wsX50 ++ wsX10 ++ wsX70)
def wsX7_owner : List Cond := .code yX7_owner cX7_owner 5 (some .int) :: ([.fieldLink RX7 39 "TankChain" "fieldsThere" "I", .fieldLink RX7 210 "TankChain$Field" "owner" "I", .fieldLink RX7 207 "TankChain$Field" "area" "I", .fieldLink RX7 216 "TankChain$Field" "daysFed" "I", .methodLink RX7 95 yX7_isWithin, .static yX7_isWithin, .initialized RX7, .code yX7_isWithin cX7_isWithin 3 (some .boolean), .methodLink RX7 197 yX7_fieldAt, .instanceMethod yX7_fieldAt, .selects RX7 yX7_fieldAt yX7_fieldAt, .code yX7_fieldAt cX7_fieldAt 2 (some (.object "TankChain$Field")), .fieldLink RX7 11 "TankChain" "fields" "[LTankChain$Field;"] ++ wsX70 ++ wsX10)
def wsX7_mayTry : List Cond := .code yX7_mayTry cX7_mayTry 2 (some .boolean) :: ([.methodLink RX7 95 yX7_isWithin, .static yX7_isWithin, .initialized RX7, .code yX7_isWithin cX7_isWithin 3 (some .boolean)])
def wsX7_waterTried_r1 : List Cond := [Cond.fieldLink RX7 87 "TankChain" "flow" "LTankChain$Flow;", Cond.fieldLink RX7 274 "TankChain$Tank" "after" "LTankChain$Pool;", Cond.fieldLink RX7 132 "TankChain$Pool" "opening" "I", Cond.fieldLink RX7 122 "TankChain$Pool" "water" "I", Cond.methodLink RX7 162 yX2_startFromNow, Cond.instanceMethod yX2_startFromNow, Cond.selects RX2 yX2_startFromNow yX2_startFromNow, Cond.initialized RX2, Cond.code yX2_startFromNow cX2_startFromNow 2 none, Cond.fieldLink RX2 22 "TankChain$Flow" "head" "LTankChain$Tank;", Cond.fieldLink RX2 30 "TankChain$Tank" "after" "LTankChain$Pool;", Cond.fieldLink RX2 36 "TankChain$Tank" "now" "LTankChain$Pool;", Cond.fieldLink RX2 45 "TankChain$Tank" "below" "LTankChain$Tank;", Cond.methodLink RX2 39 yX3_becomeAs, Cond.instanceMethod yX3_becomeAs, Cond.selects RX3 yX3_becomeAs yX3_becomeAs, Cond.initialized RX3, Cond.code yX3_becomeAs cX3_becomeAs 2 none, Cond.fieldLink RX3 7 "TankChain$Pool" "water" "I", Cond.fieldLink RX3 13 "TankChain$Pool" "opening" "I", Cond.fieldLink RX3 16 "TankChain$Pool" "breached" "Z", Cond.fieldLink RX3 20 "TankChain$Pool" "taken" "I", Cond.fieldLink RX3 23 "TankChain$Pool" "spilt" "I", Cond.methodLink RX7 165 yX2_passDay]
def wsX7_waterTried_r2 : List Cond := [Cond.instanceMethod yX2_passDay, Cond.selects RX2 yX2_passDay yX2_passDay, Cond.code yX2_passDay cX2_passDay 4 none, Cond.fieldLink RX2 12 "TankChain$Flow" "sums" "LTankChain$Sums;", Cond.fieldLink RX2 18 "TankChain$Flow" "areasFed" "I", Cond.fieldLink RX2 51 "TankChain$Tank" "catches" "I", Cond.fieldLink RX2 58 "TankChain$Sums" "out" "I", Cond.methodLink RX2 48 yX4_clear, Cond.instanceMethod yX4_clear, Cond.selects RX4 yX4_clear yX4_clear, Cond.initialized RX4, Cond.code yX4_clear cX4_clear 1 none, Cond.fieldLink RX4 7 "TankChain$Sums" "rained" "I", Cond.fieldLink RX4 13 "TankChain$Sums" "seeped" "I", Cond.fieldLink RX4 16 "TankChain$Sums" "kept" "I", Cond.fieldLink RX4 19 "TankChain$Sums" "out" "I", Cond.methodLink RX2 54 yX2_sentDown, Cond.instanceMethod yX2_sentDown, Cond.selects RX2 yX2_sentDown yX2_sentDown, Cond.code yX2_sentDown cX2_sentDown 10 (some .int), Cond.fieldLink RX2 61 "TankChain$Pool" "water" "I", Cond.fieldLink RX2 68 "TankChain$Pool" "breached" "Z", Cond.methodLink RX2 76 Lib.Math.max.name, Cond.static Lib.Math.max.name]
def wsX7_waterTried_r3 : List Cond := [Cond.initialized "java/lang/Math", Cond.code Lib.Math.max.name Lib.Math.max.code 2 (some .int), Cond.fieldLink RX2 82 "TankChain$Tank" "bank" "I", Cond.fieldLink RX2 85 "TankChain$Pool" "taken" "I", Cond.fieldLink RX2 88 "TankChain$Pool" "spilt" "I", Cond.fieldLink RX2 91 "TankChain$Sums" "rained" "I", Cond.fieldLink RX2 94 "TankChain$Sums" "seeped" "I", Cond.fieldLink RX2 97 "TankChain$Sums" "kept" "I", Cond.methodLink RX2 64 yX2_takenByFields, Cond.instanceMethod yX2_takenByFields, Cond.selects RX2 yX2_takenByFields yX2_takenByFields, Cond.code yX2_takenByFields cX2_takenByFields 9 (some .int), Cond.fieldLink RX2 100 "TankChain$Tank" "size" "I", Cond.fieldLink RX2 26 "TankChain$Flow" "custom" "LTankChain$Custom;", Cond.fieldLink RX2 103 "TankChain$Custom" "hold" "I", Cond.fieldLink RX2 108 "TankChain$Pool" "opening" "I", Cond.methodLink RX2 111 Lib.Math.min.name, Cond.static Lib.Math.min.name, Cond.code Lib.Math.min.name Lib.Math.min.code 2 (some .int), Cond.fieldLink RX2 118 "TankChain$Custom" "near" "I", Cond.fieldLink RX2 124 "TankChain$Custom" "fair" "Z", Cond.fieldLink RX2 135 "TankChain$Tank" "firstField" "LTankChain$Field;", Cond.fieldLink RX2 139 "TankChain$Field" "share" "I", Cond.fieldLink RX2 148 "TankChain$Field" "area" "I"]
def wsX7_waterTried_r4 : List Cond := [Cond.fieldLink RX2 151 "TankChain$Field" "next" "LTankChain$Field;", Cond.methodLink RX2 114 yX5_isBadYearWith, Cond.instanceMethod yX5_isBadYearWith, Cond.selects RX5 yX5_isBadYearWith yX5_isBadYearWith, Cond.initialized RX5, Cond.code yX5_isBadYearWith cX5_isBadYearWith 2 (some .boolean), Cond.fieldLink RX5 25 "TankChain$Tank" "size" "I", Cond.methodLink RX2 121 yX2_areasWithin, Cond.static yX2_areasWithin, Cond.code yX2_areasWithin cX2_areasWithin 4 (some .int), Cond.fieldLink RX2 154 "TankChain$Field" "far" "I", Cond.methodLink RX2 127 yX2_shareFairly, Cond.static yX2_shareFairly, Cond.code yX2_shareFairly cX2_shareFairly 7 none, Cond.fieldLink RX2 157 "TankChain$Field" "remainder" "I", Cond.methodLink RX2 160 yX2_giveOneMore, Cond.static yX2_giveOneMore, Cond.code yX2_giveOneMore cX2_giveOneMore 4 none, Cond.methodLink RX2 131 yX2_shareInOrder, Cond.static yX2_shareInOrder, Cond.code yX2_shareInOrder cX2_shareInOrder 5 none, Cond.methodLink RX2 144 yX1_isFed, Cond.instanceMethod yX1_isFed, Cond.selects RX1 yX1_isFed yX1_isFed]
def wsX7_waterTried_r5 : List Cond := [Cond.initialized RX1, Cond.code yX1_isFed cX1_isFed 1 (some .boolean), Cond.fieldLink RX1 13 "TankChain$Field" "share" "I", Cond.fieldLink RX1 38 "TankChain$Field" "area" "I", Cond.methodLink RX2 72 yX5_roomIf, Cond.instanceMethod yX5_roomIf, Cond.selects RX5 yX5_roomIf yX5_roomIf, Cond.code yX5_roomIf cX5_roomIf 2 (some .int), Cond.fieldLink RX5 31 "TankChain$Tank" "silt" "I"]
def wsX7_waterTried : List Cond := .code yX7_waterTried cX7_waterTried 6 (some .int) :: ((wsX7_waterTried_r1 ++ (wsX7_waterTried_r2 ++ (wsX7_waterTried_r3 ++ (wsX7_waterTried_r4 ++ wsX7_waterTried_r5)))) ++ wsX70 ++ wsX50 ++ wsX30 ++ wsX20 ++ wsX40 ++ wsX00 ++ wsX10)
def wsX7_tried_r1 : List Cond := [Cond.methodLink RX7 91 yX7_tankAt, Cond.instanceMethod yX7_tankAt, Cond.selects RX7 yX7_tankAt yX7_tankAt, Cond.initialized RX7, Cond.code yX7_tankAt cX7_tankAt 2 (some (.object "TankChain$Tank")), Cond.fieldLink RX7 75 "TankChain" "tanks" "[LTankChain$Tank;", Cond.methodLink RX7 235 yX7_mayTry, Cond.static yX7_mayTry, Cond.code yX7_mayTry cX7_mayTry 2 (some .boolean), Cond.methodLink RX7 95 yX7_isWithin, Cond.static yX7_isWithin, Cond.code yX7_isWithin cX7_isWithin 3 (some .boolean), Cond.methodLink RX7 239 yX7_waterTried, Cond.instanceMethod yX7_waterTried, Cond.selects RX7 yX7_waterTried yX7_waterTried, Cond.code yX7_waterTried cX7_waterTried 6 (some .int), Cond.fieldLink RX7 87 "TankChain" "flow" "LTankChain$Flow;", Cond.fieldLink RX7 274 "TankChain$Tank" "after" "LTankChain$Pool;", Cond.fieldLink RX7 132 "TankChain$Pool" "opening" "I", Cond.fieldLink RX7 122 "TankChain$Pool" "water" "I", Cond.methodLink RX7 162 yX2_startFromNow, Cond.instanceMethod yX2_startFromNow, Cond.selects RX2 yX2_startFromNow yX2_startFromNow, Cond.initialized RX2]
def wsX7_tried_r2 : List Cond := [Cond.code yX2_startFromNow cX2_startFromNow 2 none, Cond.fieldLink RX2 22 "TankChain$Flow" "head" "LTankChain$Tank;", Cond.fieldLink RX2 30 "TankChain$Tank" "after" "LTankChain$Pool;", Cond.fieldLink RX2 36 "TankChain$Tank" "now" "LTankChain$Pool;", Cond.fieldLink RX2 45 "TankChain$Tank" "below" "LTankChain$Tank;", Cond.methodLink RX2 39 yX3_becomeAs, Cond.instanceMethod yX3_becomeAs, Cond.selects RX3 yX3_becomeAs yX3_becomeAs, Cond.initialized RX3, Cond.code yX3_becomeAs cX3_becomeAs 2 none, Cond.fieldLink RX3 7 "TankChain$Pool" "water" "I", Cond.fieldLink RX3 13 "TankChain$Pool" "opening" "I", Cond.fieldLink RX3 16 "TankChain$Pool" "breached" "Z", Cond.fieldLink RX3 20 "TankChain$Pool" "taken" "I", Cond.fieldLink RX3 23 "TankChain$Pool" "spilt" "I", Cond.methodLink RX7 165 yX2_passDay, Cond.instanceMethod yX2_passDay, Cond.selects RX2 yX2_passDay yX2_passDay, Cond.code yX2_passDay cX2_passDay 4 none, Cond.fieldLink RX2 12 "TankChain$Flow" "sums" "LTankChain$Sums;", Cond.fieldLink RX2 18 "TankChain$Flow" "areasFed" "I", Cond.fieldLink RX2 51 "TankChain$Tank" "catches" "I", Cond.fieldLink RX2 58 "TankChain$Sums" "out" "I", Cond.methodLink RX2 48 yX4_clear]
def wsX7_tried_r3 : List Cond := [Cond.instanceMethod yX4_clear, Cond.selects RX4 yX4_clear yX4_clear, Cond.initialized RX4, Cond.code yX4_clear cX4_clear 1 none, Cond.fieldLink RX4 7 "TankChain$Sums" "rained" "I", Cond.fieldLink RX4 13 "TankChain$Sums" "seeped" "I", Cond.fieldLink RX4 16 "TankChain$Sums" "kept" "I", Cond.fieldLink RX4 19 "TankChain$Sums" "out" "I", Cond.methodLink RX2 54 yX2_sentDown, Cond.instanceMethod yX2_sentDown, Cond.selects RX2 yX2_sentDown yX2_sentDown, Cond.code yX2_sentDown cX2_sentDown 10 (some .int), Cond.fieldLink RX2 61 "TankChain$Pool" "water" "I", Cond.fieldLink RX2 68 "TankChain$Pool" "breached" "Z", Cond.methodLink RX2 76 Lib.Math.max.name, Cond.static Lib.Math.max.name, Cond.initialized "java/lang/Math", Cond.code Lib.Math.max.name Lib.Math.max.code 2 (some .int), Cond.fieldLink RX2 82 "TankChain$Tank" "bank" "I", Cond.fieldLink RX2 85 "TankChain$Pool" "taken" "I", Cond.fieldLink RX2 88 "TankChain$Pool" "spilt" "I", Cond.fieldLink RX2 91 "TankChain$Sums" "rained" "I", Cond.fieldLink RX2 94 "TankChain$Sums" "seeped" "I", Cond.fieldLink RX2 97 "TankChain$Sums" "kept" "I"]
def wsX7_tried_r4 : List Cond := [Cond.methodLink RX2 64 yX2_takenByFields, Cond.instanceMethod yX2_takenByFields, Cond.selects RX2 yX2_takenByFields yX2_takenByFields, Cond.code yX2_takenByFields cX2_takenByFields 9 (some .int), Cond.fieldLink RX2 100 "TankChain$Tank" "size" "I", Cond.fieldLink RX2 26 "TankChain$Flow" "custom" "LTankChain$Custom;", Cond.fieldLink RX2 103 "TankChain$Custom" "hold" "I", Cond.fieldLink RX2 108 "TankChain$Pool" "opening" "I", Cond.methodLink RX2 111 Lib.Math.min.name, Cond.static Lib.Math.min.name, Cond.code Lib.Math.min.name Lib.Math.min.code 2 (some .int), Cond.fieldLink RX2 118 "TankChain$Custom" "near" "I", Cond.fieldLink RX2 124 "TankChain$Custom" "fair" "Z", Cond.fieldLink RX2 135 "TankChain$Tank" "firstField" "LTankChain$Field;", Cond.fieldLink RX2 139 "TankChain$Field" "share" "I", Cond.fieldLink RX2 148 "TankChain$Field" "area" "I", Cond.fieldLink RX2 151 "TankChain$Field" "next" "LTankChain$Field;", Cond.methodLink RX2 114 yX5_isBadYearWith, Cond.instanceMethod yX5_isBadYearWith, Cond.selects RX5 yX5_isBadYearWith yX5_isBadYearWith, Cond.initialized RX5, Cond.code yX5_isBadYearWith cX5_isBadYearWith 2 (some .boolean), Cond.fieldLink RX5 25 "TankChain$Tank" "size" "I", Cond.methodLink RX2 121 yX2_areasWithin]
def wsX7_tried_r5 : List Cond := [Cond.static yX2_areasWithin, Cond.code yX2_areasWithin cX2_areasWithin 4 (some .int), Cond.fieldLink RX2 154 "TankChain$Field" "far" "I", Cond.methodLink RX2 127 yX2_shareFairly, Cond.static yX2_shareFairly, Cond.code yX2_shareFairly cX2_shareFairly 7 none, Cond.fieldLink RX2 157 "TankChain$Field" "remainder" "I", Cond.methodLink RX2 160 yX2_giveOneMore, Cond.static yX2_giveOneMore, Cond.code yX2_giveOneMore cX2_giveOneMore 4 none, Cond.methodLink RX2 131 yX2_shareInOrder, Cond.static yX2_shareInOrder, Cond.code yX2_shareInOrder cX2_shareInOrder 5 none, Cond.methodLink RX2 144 yX1_isFed, Cond.instanceMethod yX1_isFed, Cond.selects RX1 yX1_isFed yX1_isFed, Cond.initialized RX1, Cond.code yX1_isFed cX1_isFed 1 (some .boolean), Cond.fieldLink RX1 13 "TankChain$Field" "share" "I", Cond.fieldLink RX1 38 "TankChain$Field" "area" "I", Cond.methodLink RX2 72 yX5_roomIf, Cond.instanceMethod yX5_roomIf, Cond.selects RX5 yX5_roomIf yX5_roomIf, Cond.code yX5_roomIf cX5_roomIf 2 (some .int)]
def wsX7_tried_r6 : List Cond := [Cond.fieldLink RX5 31 "TankChain$Tank" "silt" "I"]
def wsX7_tried : List Cond := .code yX7_tried cX7_tried 5 (some .int) :: ((wsX7_tried_r1 ++ (wsX7_tried_r2 ++ (wsX7_tried_r3 ++ (wsX7_tried_r4 ++ (wsX7_tried_r5 ++ wsX7_tried_r6))))) ++ wsX70 ++ wsX50 ++ wsX30 ++ wsX20 ++ wsX40 ++ wsX00 ++ wsX10)
def wsX7_lost_r1 : List Cond := [Cond.constant RX7 243 (-100000), Cond.methodLink RX7 91 yX7_tankAt, Cond.instanceMethod yX7_tankAt, Cond.selects RX7 yX7_tankAt yX7_tankAt, Cond.initialized RX7, Cond.code yX7_tankAt cX7_tankAt 2 (some (.object "TankChain$Tank")), Cond.fieldLink RX7 75 "TankChain" "tanks" "[LTankChain$Tank;", Cond.methodLink RX7 235 yX7_mayTry, Cond.static yX7_mayTry, Cond.code yX7_mayTry cX7_mayTry 2 (some .boolean), Cond.methodLink RX7 95 yX7_isWithin, Cond.static yX7_isWithin, Cond.code yX7_isWithin cX7_isWithin 3 (some .boolean), Cond.methodLink RX7 239 yX7_waterTried, Cond.instanceMethod yX7_waterTried, Cond.selects RX7 yX7_waterTried yX7_waterTried, Cond.code yX7_waterTried cX7_waterTried 6 (some .int), Cond.fieldLink RX7 87 "TankChain" "flow" "LTankChain$Flow;", Cond.fieldLink RX7 274 "TankChain$Tank" "after" "LTankChain$Pool;", Cond.fieldLink RX7 132 "TankChain$Pool" "opening" "I", Cond.fieldLink RX7 122 "TankChain$Pool" "water" "I", Cond.methodLink RX7 162 yX2_startFromNow, Cond.instanceMethod yX2_startFromNow, Cond.selects RX2 yX2_startFromNow yX2_startFromNow]
def wsX7_lost_r2 : List Cond := [Cond.initialized RX2, Cond.code yX2_startFromNow cX2_startFromNow 2 none, Cond.fieldLink RX2 22 "TankChain$Flow" "head" "LTankChain$Tank;", Cond.fieldLink RX2 30 "TankChain$Tank" "after" "LTankChain$Pool;", Cond.fieldLink RX2 36 "TankChain$Tank" "now" "LTankChain$Pool;", Cond.fieldLink RX2 45 "TankChain$Tank" "below" "LTankChain$Tank;", Cond.methodLink RX2 39 yX3_becomeAs, Cond.instanceMethod yX3_becomeAs, Cond.selects RX3 yX3_becomeAs yX3_becomeAs, Cond.initialized RX3, Cond.code yX3_becomeAs cX3_becomeAs 2 none, Cond.fieldLink RX3 7 "TankChain$Pool" "water" "I", Cond.fieldLink RX3 13 "TankChain$Pool" "opening" "I", Cond.fieldLink RX3 16 "TankChain$Pool" "breached" "Z", Cond.fieldLink RX3 20 "TankChain$Pool" "taken" "I", Cond.fieldLink RX3 23 "TankChain$Pool" "spilt" "I", Cond.methodLink RX7 165 yX2_passDay, Cond.instanceMethod yX2_passDay, Cond.selects RX2 yX2_passDay yX2_passDay, Cond.code yX2_passDay cX2_passDay 4 none, Cond.fieldLink RX2 12 "TankChain$Flow" "sums" "LTankChain$Sums;", Cond.fieldLink RX2 18 "TankChain$Flow" "areasFed" "I", Cond.fieldLink RX2 51 "TankChain$Tank" "catches" "I", Cond.fieldLink RX2 58 "TankChain$Sums" "out" "I"]
def wsX7_lost_r3 : List Cond := [Cond.methodLink RX2 48 yX4_clear, Cond.instanceMethod yX4_clear, Cond.selects RX4 yX4_clear yX4_clear, Cond.initialized RX4, Cond.code yX4_clear cX4_clear 1 none, Cond.fieldLink RX4 7 "TankChain$Sums" "rained" "I", Cond.fieldLink RX4 13 "TankChain$Sums" "seeped" "I", Cond.fieldLink RX4 16 "TankChain$Sums" "kept" "I", Cond.fieldLink RX4 19 "TankChain$Sums" "out" "I", Cond.methodLink RX2 54 yX2_sentDown, Cond.instanceMethod yX2_sentDown, Cond.selects RX2 yX2_sentDown yX2_sentDown, Cond.code yX2_sentDown cX2_sentDown 10 (some .int), Cond.fieldLink RX2 61 "TankChain$Pool" "water" "I", Cond.fieldLink RX2 68 "TankChain$Pool" "breached" "Z", Cond.methodLink RX2 76 Lib.Math.max.name, Cond.static Lib.Math.max.name, Cond.initialized "java/lang/Math", Cond.code Lib.Math.max.name Lib.Math.max.code 2 (some .int), Cond.fieldLink RX2 82 "TankChain$Tank" "bank" "I", Cond.fieldLink RX2 85 "TankChain$Pool" "taken" "I", Cond.fieldLink RX2 88 "TankChain$Pool" "spilt" "I", Cond.fieldLink RX2 91 "TankChain$Sums" "rained" "I", Cond.fieldLink RX2 94 "TankChain$Sums" "seeped" "I"]
def wsX7_lost_r4 : List Cond := [Cond.fieldLink RX2 97 "TankChain$Sums" "kept" "I", Cond.methodLink RX2 64 yX2_takenByFields, Cond.instanceMethod yX2_takenByFields, Cond.selects RX2 yX2_takenByFields yX2_takenByFields, Cond.code yX2_takenByFields cX2_takenByFields 9 (some .int), Cond.fieldLink RX2 100 "TankChain$Tank" "size" "I", Cond.fieldLink RX2 26 "TankChain$Flow" "custom" "LTankChain$Custom;", Cond.fieldLink RX2 103 "TankChain$Custom" "hold" "I", Cond.fieldLink RX2 108 "TankChain$Pool" "opening" "I", Cond.methodLink RX2 111 Lib.Math.min.name, Cond.static Lib.Math.min.name, Cond.code Lib.Math.min.name Lib.Math.min.code 2 (some .int), Cond.fieldLink RX2 118 "TankChain$Custom" "near" "I", Cond.fieldLink RX2 124 "TankChain$Custom" "fair" "Z", Cond.fieldLink RX2 135 "TankChain$Tank" "firstField" "LTankChain$Field;", Cond.fieldLink RX2 139 "TankChain$Field" "share" "I", Cond.fieldLink RX2 148 "TankChain$Field" "area" "I", Cond.fieldLink RX2 151 "TankChain$Field" "next" "LTankChain$Field;", Cond.methodLink RX2 114 yX5_isBadYearWith, Cond.instanceMethod yX5_isBadYearWith, Cond.selects RX5 yX5_isBadYearWith yX5_isBadYearWith, Cond.initialized RX5, Cond.code yX5_isBadYearWith cX5_isBadYearWith 2 (some .boolean), Cond.fieldLink RX5 25 "TankChain$Tank" "size" "I"]
def wsX7_lost_r5 : List Cond := [Cond.methodLink RX2 121 yX2_areasWithin, Cond.static yX2_areasWithin, Cond.code yX2_areasWithin cX2_areasWithin 4 (some .int), Cond.fieldLink RX2 154 "TankChain$Field" "far" "I", Cond.methodLink RX2 127 yX2_shareFairly, Cond.static yX2_shareFairly, Cond.code yX2_shareFairly cX2_shareFairly 7 none, Cond.fieldLink RX2 157 "TankChain$Field" "remainder" "I", Cond.methodLink RX2 160 yX2_giveOneMore, Cond.static yX2_giveOneMore, Cond.code yX2_giveOneMore cX2_giveOneMore 4 none, Cond.methodLink RX2 131 yX2_shareInOrder, Cond.static yX2_shareInOrder, Cond.code yX2_shareInOrder cX2_shareInOrder 5 none, Cond.methodLink RX2 144 yX1_isFed, Cond.instanceMethod yX1_isFed, Cond.selects RX1 yX1_isFed yX1_isFed, Cond.initialized RX1, Cond.code yX1_isFed cX1_isFed 1 (some .boolean), Cond.fieldLink RX1 13 "TankChain$Field" "share" "I", Cond.fieldLink RX1 38 "TankChain$Field" "area" "I", Cond.methodLink RX2 72 yX5_roomIf, Cond.instanceMethod yX5_roomIf, Cond.selects RX5 yX5_roomIf yX5_roomIf]
def wsX7_lost_r6 : List Cond := [Cond.code yX5_roomIf cX5_roomIf 2 (some .int), Cond.fieldLink RX5 31 "TankChain$Tank" "silt" "I"]
def wsX7_lost : List Cond := .code yX7_lost cX7_lost 7 (some .int) :: ((wsX7_lost_r1 ++ (wsX7_lost_r2 ++ (wsX7_lost_r3 ++ (wsX7_lost_r4 ++ (wsX7_lost_r5 ++ wsX7_lost_r6))))) ++ wsX70 ++ wsX50 ++ wsX30 ++ wsX20 ++ wsX40 ++ wsX00 ++ wsX10)
def wsX7_openingIn : List Cond := .code yX7_openingIn cX7_openingIn 4 (some .int) :: ([])
def wsX7_areasFedBy_r1 : List Cond := [Cond.fieldLink RX7 87 "TankChain" "flow" "LTankChain$Flow;", Cond.fieldLink RX7 274 "TankChain$Tank" "after" "LTankChain$Pool;", Cond.fieldLink RX7 132 "TankChain$Pool" "opening" "I", Cond.fieldLink RX7 284 "TankChain$Flow" "areasFed" "I", Cond.methodLink RX7 162 yX2_startFromNow, Cond.instanceMethod yX2_startFromNow, Cond.selects RX2 yX2_startFromNow yX2_startFromNow, Cond.initialized RX2, Cond.code yX2_startFromNow cX2_startFromNow 2 none, Cond.fieldLink RX2 22 "TankChain$Flow" "head" "LTankChain$Tank;", Cond.fieldLink RX2 30 "TankChain$Tank" "after" "LTankChain$Pool;", Cond.fieldLink RX2 36 "TankChain$Tank" "now" "LTankChain$Pool;", Cond.fieldLink RX2 45 "TankChain$Tank" "below" "LTankChain$Tank;", Cond.methodLink RX2 39 yX3_becomeAs, Cond.instanceMethod yX3_becomeAs, Cond.selects RX3 yX3_becomeAs yX3_becomeAs, Cond.initialized RX3, Cond.code yX3_becomeAs cX3_becomeAs 2 none, Cond.fieldLink RX3 7 "TankChain$Pool" "water" "I", Cond.fieldLink RX3 13 "TankChain$Pool" "opening" "I", Cond.fieldLink RX3 16 "TankChain$Pool" "breached" "Z", Cond.fieldLink RX3 20 "TankChain$Pool" "taken" "I", Cond.fieldLink RX3 23 "TankChain$Pool" "spilt" "I", Cond.methodLink RX7 91 yX7_tankAt]
def wsX7_areasFedBy_r2 : List Cond := [Cond.instanceMethod yX7_tankAt, Cond.selects RX7 yX7_tankAt yX7_tankAt, Cond.initialized RX7, Cond.code yX7_tankAt cX7_tankAt 2 (some (.object "TankChain$Tank")), Cond.fieldLink RX7 75 "TankChain" "tanks" "[LTankChain$Tank;", Cond.methodLink RX7 248 yX7_openingIn, Cond.static yX7_openingIn, Cond.code yX7_openingIn cX7_openingIn 4 (some .int), Cond.methodLink RX7 165 yX2_passDay, Cond.instanceMethod yX2_passDay, Cond.selects RX2 yX2_passDay yX2_passDay, Cond.code yX2_passDay cX2_passDay 4 none, Cond.fieldLink RX2 12 "TankChain$Flow" "sums" "LTankChain$Sums;", Cond.fieldLink RX2 18 "TankChain$Flow" "areasFed" "I", Cond.fieldLink RX2 51 "TankChain$Tank" "catches" "I", Cond.fieldLink RX2 58 "TankChain$Sums" "out" "I", Cond.methodLink RX2 48 yX4_clear, Cond.instanceMethod yX4_clear, Cond.selects RX4 yX4_clear yX4_clear, Cond.initialized RX4, Cond.code yX4_clear cX4_clear 1 none, Cond.fieldLink RX4 7 "TankChain$Sums" "rained" "I", Cond.fieldLink RX4 13 "TankChain$Sums" "seeped" "I", Cond.fieldLink RX4 16 "TankChain$Sums" "kept" "I"]
def wsX7_areasFedBy_r3 : List Cond := [Cond.fieldLink RX4 19 "TankChain$Sums" "out" "I", Cond.methodLink RX2 54 yX2_sentDown, Cond.instanceMethod yX2_sentDown, Cond.selects RX2 yX2_sentDown yX2_sentDown, Cond.code yX2_sentDown cX2_sentDown 10 (some .int), Cond.fieldLink RX2 61 "TankChain$Pool" "water" "I", Cond.fieldLink RX2 68 "TankChain$Pool" "breached" "Z", Cond.methodLink RX2 76 Lib.Math.max.name, Cond.static Lib.Math.max.name, Cond.initialized "java/lang/Math", Cond.code Lib.Math.max.name Lib.Math.max.code 2 (some .int), Cond.fieldLink RX2 82 "TankChain$Tank" "bank" "I", Cond.fieldLink RX2 85 "TankChain$Pool" "taken" "I", Cond.fieldLink RX2 88 "TankChain$Pool" "spilt" "I", Cond.fieldLink RX2 91 "TankChain$Sums" "rained" "I", Cond.fieldLink RX2 94 "TankChain$Sums" "seeped" "I", Cond.fieldLink RX2 97 "TankChain$Sums" "kept" "I", Cond.methodLink RX2 64 yX2_takenByFields, Cond.instanceMethod yX2_takenByFields, Cond.selects RX2 yX2_takenByFields yX2_takenByFields, Cond.code yX2_takenByFields cX2_takenByFields 9 (some .int), Cond.fieldLink RX2 100 "TankChain$Tank" "size" "I", Cond.fieldLink RX2 26 "TankChain$Flow" "custom" "LTankChain$Custom;", Cond.fieldLink RX2 103 "TankChain$Custom" "hold" "I"]
def wsX7_areasFedBy_r4 : List Cond := [Cond.fieldLink RX2 108 "TankChain$Pool" "opening" "I", Cond.methodLink RX2 111 Lib.Math.min.name, Cond.static Lib.Math.min.name, Cond.code Lib.Math.min.name Lib.Math.min.code 2 (some .int), Cond.fieldLink RX2 118 "TankChain$Custom" "near" "I", Cond.fieldLink RX2 124 "TankChain$Custom" "fair" "Z", Cond.fieldLink RX2 135 "TankChain$Tank" "firstField" "LTankChain$Field;", Cond.fieldLink RX2 139 "TankChain$Field" "share" "I", Cond.fieldLink RX2 148 "TankChain$Field" "area" "I", Cond.fieldLink RX2 151 "TankChain$Field" "next" "LTankChain$Field;", Cond.methodLink RX2 114 yX5_isBadYearWith, Cond.instanceMethod yX5_isBadYearWith, Cond.selects RX5 yX5_isBadYearWith yX5_isBadYearWith, Cond.initialized RX5, Cond.code yX5_isBadYearWith cX5_isBadYearWith 2 (some .boolean), Cond.fieldLink RX5 25 "TankChain$Tank" "size" "I", Cond.methodLink RX2 121 yX2_areasWithin, Cond.static yX2_areasWithin, Cond.code yX2_areasWithin cX2_areasWithin 4 (some .int), Cond.fieldLink RX2 154 "TankChain$Field" "far" "I", Cond.methodLink RX2 127 yX2_shareFairly, Cond.static yX2_shareFairly, Cond.code yX2_shareFairly cX2_shareFairly 7 none, Cond.fieldLink RX2 157 "TankChain$Field" "remainder" "I"]
def wsX7_areasFedBy_r5 : List Cond := [Cond.methodLink RX2 160 yX2_giveOneMore, Cond.static yX2_giveOneMore, Cond.code yX2_giveOneMore cX2_giveOneMore 4 none, Cond.methodLink RX2 131 yX2_shareInOrder, Cond.static yX2_shareInOrder, Cond.code yX2_shareInOrder cX2_shareInOrder 5 none, Cond.methodLink RX2 144 yX1_isFed, Cond.instanceMethod yX1_isFed, Cond.selects RX1 yX1_isFed yX1_isFed, Cond.initialized RX1, Cond.code yX1_isFed cX1_isFed 1 (some .boolean), Cond.fieldLink RX1 13 "TankChain$Field" "share" "I", Cond.fieldLink RX1 38 "TankChain$Field" "area" "I", Cond.methodLink RX2 72 yX5_roomIf, Cond.instanceMethod yX5_roomIf, Cond.selects RX5 yX5_roomIf yX5_roomIf, Cond.code yX5_roomIf cX5_roomIf 2 (some .int), Cond.fieldLink RX5 31 "TankChain$Tank" "silt" "I"]
def wsX7_areasFedBy : List Cond := .code yX7_areasFedBy cX7_areasFedBy 8 (some .int) :: ((wsX7_areasFedBy_r1 ++ (wsX7_areasFedBy_r2 ++ (wsX7_areasFedBy_r3 ++ (wsX7_areasFedBy_r4 ++ wsX7_areasFedBy_r5)))) ++ wsX70 ++ wsX50 ++ wsX30 ++ wsX20 ++ wsX40 ++ wsX00 ++ wsX10)
def wsX7_most_r1 : List Cond := [Cond.methodLink RX7 91 yX7_tankAt, Cond.instanceMethod yX7_tankAt, Cond.selects RX7 yX7_tankAt yX7_tankAt, Cond.initialized RX7, Cond.code yX7_tankAt cX7_tankAt 2 (some (.object "TankChain$Tank")), Cond.fieldLink RX7 75 "TankChain" "tanks" "[LTankChain$Tank;", Cond.methodLink RX7 95 yX7_isWithin, Cond.static yX7_isWithin, Cond.code yX7_isWithin cX7_isWithin 3 (some .boolean), Cond.methodLink RX7 235 yX7_mayTry, Cond.static yX7_mayTry, Cond.code yX7_mayTry cX7_mayTry 2 (some .boolean), Cond.methodLink RX7 244 yX7_areasFedBy, Cond.instanceMethod yX7_areasFedBy, Cond.selects RX7 yX7_areasFedBy yX7_areasFedBy, Cond.code yX7_areasFedBy cX7_areasFedBy 8 (some .int), Cond.fieldLink RX7 87 "TankChain" "flow" "LTankChain$Flow;", Cond.fieldLink RX7 274 "TankChain$Tank" "after" "LTankChain$Pool;", Cond.fieldLink RX7 132 "TankChain$Pool" "opening" "I", Cond.fieldLink RX7 284 "TankChain$Flow" "areasFed" "I", Cond.methodLink RX7 162 yX2_startFromNow, Cond.instanceMethod yX2_startFromNow, Cond.selects RX2 yX2_startFromNow yX2_startFromNow, Cond.initialized RX2]
def wsX7_most_r2 : List Cond := [Cond.code yX2_startFromNow cX2_startFromNow 2 none, Cond.fieldLink RX2 22 "TankChain$Flow" "head" "LTankChain$Tank;", Cond.fieldLink RX2 30 "TankChain$Tank" "after" "LTankChain$Pool;", Cond.fieldLink RX2 36 "TankChain$Tank" "now" "LTankChain$Pool;", Cond.fieldLink RX2 45 "TankChain$Tank" "below" "LTankChain$Tank;", Cond.methodLink RX2 39 yX3_becomeAs, Cond.instanceMethod yX3_becomeAs, Cond.selects RX3 yX3_becomeAs yX3_becomeAs, Cond.initialized RX3, Cond.code yX3_becomeAs cX3_becomeAs 2 none, Cond.fieldLink RX3 7 "TankChain$Pool" "water" "I", Cond.fieldLink RX3 13 "TankChain$Pool" "opening" "I", Cond.fieldLink RX3 16 "TankChain$Pool" "breached" "Z", Cond.fieldLink RX3 20 "TankChain$Pool" "taken" "I", Cond.fieldLink RX3 23 "TankChain$Pool" "spilt" "I", Cond.methodLink RX7 248 yX7_openingIn, Cond.static yX7_openingIn, Cond.code yX7_openingIn cX7_openingIn 4 (some .int), Cond.methodLink RX7 165 yX2_passDay, Cond.instanceMethod yX2_passDay, Cond.selects RX2 yX2_passDay yX2_passDay, Cond.code yX2_passDay cX2_passDay 4 none, Cond.fieldLink RX2 12 "TankChain$Flow" "sums" "LTankChain$Sums;", Cond.fieldLink RX2 18 "TankChain$Flow" "areasFed" "I"]
def wsX7_most_r3 : List Cond := [Cond.fieldLink RX2 51 "TankChain$Tank" "catches" "I", Cond.fieldLink RX2 58 "TankChain$Sums" "out" "I", Cond.methodLink RX2 48 yX4_clear, Cond.instanceMethod yX4_clear, Cond.selects RX4 yX4_clear yX4_clear, Cond.initialized RX4, Cond.code yX4_clear cX4_clear 1 none, Cond.fieldLink RX4 7 "TankChain$Sums" "rained" "I", Cond.fieldLink RX4 13 "TankChain$Sums" "seeped" "I", Cond.fieldLink RX4 16 "TankChain$Sums" "kept" "I", Cond.fieldLink RX4 19 "TankChain$Sums" "out" "I", Cond.methodLink RX2 54 yX2_sentDown, Cond.instanceMethod yX2_sentDown, Cond.selects RX2 yX2_sentDown yX2_sentDown, Cond.code yX2_sentDown cX2_sentDown 10 (some .int), Cond.fieldLink RX2 61 "TankChain$Pool" "water" "I", Cond.fieldLink RX2 68 "TankChain$Pool" "breached" "Z", Cond.methodLink RX2 76 Lib.Math.max.name, Cond.static Lib.Math.max.name, Cond.initialized "java/lang/Math", Cond.code Lib.Math.max.name Lib.Math.max.code 2 (some .int), Cond.fieldLink RX2 82 "TankChain$Tank" "bank" "I", Cond.fieldLink RX2 85 "TankChain$Pool" "taken" "I", Cond.fieldLink RX2 88 "TankChain$Pool" "spilt" "I"]
def wsX7_most_r4 : List Cond := [Cond.fieldLink RX2 91 "TankChain$Sums" "rained" "I", Cond.fieldLink RX2 94 "TankChain$Sums" "seeped" "I", Cond.fieldLink RX2 97 "TankChain$Sums" "kept" "I", Cond.methodLink RX2 64 yX2_takenByFields, Cond.instanceMethod yX2_takenByFields, Cond.selects RX2 yX2_takenByFields yX2_takenByFields, Cond.code yX2_takenByFields cX2_takenByFields 9 (some .int), Cond.fieldLink RX2 100 "TankChain$Tank" "size" "I", Cond.fieldLink RX2 26 "TankChain$Flow" "custom" "LTankChain$Custom;", Cond.fieldLink RX2 103 "TankChain$Custom" "hold" "I", Cond.fieldLink RX2 108 "TankChain$Pool" "opening" "I", Cond.methodLink RX2 111 Lib.Math.min.name, Cond.static Lib.Math.min.name, Cond.code Lib.Math.min.name Lib.Math.min.code 2 (some .int), Cond.fieldLink RX2 118 "TankChain$Custom" "near" "I", Cond.fieldLink RX2 124 "TankChain$Custom" "fair" "Z", Cond.fieldLink RX2 135 "TankChain$Tank" "firstField" "LTankChain$Field;", Cond.fieldLink RX2 139 "TankChain$Field" "share" "I", Cond.fieldLink RX2 148 "TankChain$Field" "area" "I", Cond.fieldLink RX2 151 "TankChain$Field" "next" "LTankChain$Field;", Cond.methodLink RX2 114 yX5_isBadYearWith, Cond.instanceMethod yX5_isBadYearWith, Cond.selects RX5 yX5_isBadYearWith yX5_isBadYearWith, Cond.initialized RX5]
def wsX7_most_r5 : List Cond := [Cond.code yX5_isBadYearWith cX5_isBadYearWith 2 (some .boolean), Cond.fieldLink RX5 25 "TankChain$Tank" "size" "I", Cond.methodLink RX2 121 yX2_areasWithin, Cond.static yX2_areasWithin, Cond.code yX2_areasWithin cX2_areasWithin 4 (some .int), Cond.fieldLink RX2 154 "TankChain$Field" "far" "I", Cond.methodLink RX2 127 yX2_shareFairly, Cond.static yX2_shareFairly, Cond.code yX2_shareFairly cX2_shareFairly 7 none, Cond.fieldLink RX2 157 "TankChain$Field" "remainder" "I", Cond.methodLink RX2 160 yX2_giveOneMore, Cond.static yX2_giveOneMore, Cond.code yX2_giveOneMore cX2_giveOneMore 4 none, Cond.methodLink RX2 131 yX2_shareInOrder, Cond.static yX2_shareInOrder, Cond.code yX2_shareInOrder cX2_shareInOrder 5 none, Cond.methodLink RX2 144 yX1_isFed, Cond.instanceMethod yX1_isFed, Cond.selects RX1 yX1_isFed yX1_isFed, Cond.initialized RX1, Cond.code yX1_isFed cX1_isFed 1 (some .boolean), Cond.fieldLink RX1 13 "TankChain$Field" "share" "I", Cond.fieldLink RX1 38 "TankChain$Field" "area" "I", Cond.methodLink RX2 72 yX5_roomIf]
def wsX7_most_r6 : List Cond := [Cond.instanceMethod yX5_roomIf, Cond.selects RX5 yX5_roomIf yX5_roomIf, Cond.code yX5_roomIf cX5_roomIf 2 (some .int), Cond.fieldLink RX5 31 "TankChain$Tank" "silt" "I"]
def wsX7_most : List Cond := .code yX7_most cX7_most 12 (some .int) :: ((wsX7_most_r1 ++ (wsX7_most_r2 ++ (wsX7_most_r3 ++ (wsX7_most_r4 ++ (wsX7_most_r5 ++ wsX7_most_r6))))) ++ wsX70 ++ wsX50 ++ wsX30 ++ wsX20 ++ wsX40 ++ wsX00 ++ wsX10)
def wsX7_breach : List Cond := .code yX7_breach cX7_breach 2 (some .int) :: ([.fieldLink RX7 58 "TankChain" "breachFirst" "I", .fieldLink RX7 61 "TankChain" "breachTanks" "I", .fieldLink RX7 55 "TankChain" "breachDay" "I"] ++ wsX70)
def wsX7_allWater : List Cond := .code yX7_allWater cX7_allWater 3 (some .int) :: ([.fieldLink RX7 87 "TankChain" "flow" "LTankChain$Flow;", .fieldLink RX7 267 "TankChain$Flow" "head" "LTankChain$Tank;", .fieldLink RX7 108 "TankChain$Tank" "now" "LTankChain$Pool;", .fieldLink RX7 122 "TankChain$Pool" "water" "I", .fieldLink RX7 271 "TankChain$Tank" "below" "LTankChain$Tank;"] ++ wsX70 ++ wsX20 ++ wsX50 ++ wsX30)
def wsX7_count : List Cond := .code yX7_count cX7_count 2 (some .int) :: ([.fieldLink RX7 43 "TankChain" "daysGone" "I", .fieldLink RX7 75 "TankChain" "tanks" "[LTankChain$Tank;", .fieldLink RX7 39 "TankChain" "fieldsThere" "I", .fieldLink RX7 35 "TankChain" "ever" "LTankChain$Sums;", .fieldLink RX7 255 "TankChain$Sums" "out" "I", .fieldLink RX7 258 "TankChain$Sums" "seeped" "I", .fieldLink RX7 261 "TankChain$Sums" "kept" "I", .fieldLink RX7 264 "TankChain$Sums" "rained" "I", .fieldLink RX7 18 "TankChain" "tape" "LTankChain$Tape;", .fieldLink RX7 138 "TankChain$Tape" "held" "I", .fieldLink RX7 49 "TankChain" "waterTold" "I", .methodLink RX7 251 yX7_allWater, .instanceMethod yX7_allWater, .selects RX7 yX7_allWater yX7_allWater, .initialized RX7, .code yX7_allWater cX7_allWater 3 (some .int), .fieldLink RX7 87 "TankChain" "flow" "LTankChain$Flow;", .fieldLink RX7 267 "TankChain$Flow" "head" "LTankChain$Tank;", .fieldLink RX7 108 "TankChain$Tank" "now" "LTankChain$Pool;", .fieldLink RX7 122 "TankChain$Pool" "water" "I", .fieldLink RX7 271 "TankChain$Tank" "below" "LTankChain$Tank;"] ++ wsX70 ++ wsX40 ++ wsX60 ++ wsX20 ++ wsX50 ++ wsX30)
def wsX8_init_r1 : List Cond := [Cond.methodLink RX8 1 objectInit, Cond.instanceMethod objectInit, Cond.code objectInit ⟨#[0xb1]⟩ 1 none, Cond.arrayClass .int, Cond.fieldLink RX8 7 "TankChainModel" "catches" "[I", Cond.fieldLink RX8 13 "TankChainModel" "size" "[I", Cond.fieldLink RX8 16 "TankChainModel" "bank" "[I", Cond.fieldLink RX8 19 "TankChainModel" "water" "[I", Cond.fieldLink RX8 22 "TankChainModel" "opening" "[I", Cond.fieldLink RX8 25 "TankChainModel" "silt" "[I", Cond.fieldLink RX8 28 "TankChainModel" "taken" "[I", Cond.fieldLink RX8 31 "TankChainModel" "spilt" "[I", Cond.fieldLink RX8 34 "TankChainModel" "breachedOn" "[I", Cond.arrayClass .boolean, Cond.fieldLink RX8 37 "TankChainModel" "isBreached" "[Z", Cond.fieldLink RX8 41 "TankChainModel" "fieldTank" "[I", Cond.fieldLink RX8 44 "TankChainModel" "far" "[I", Cond.fieldLink RX8 47 "TankChainModel" "area" "[I", Cond.fieldLink RX8 50 "TankChainModel" "owner" "[I", Cond.fieldLink RX8 53 "TankChainModel" "daysFed" "[I", Cond.fieldLink RX8 56 "TankChainModel" "allGot" "[I", Cond.fieldLink RX8 59 "TankChainModel" "lastGot" "[I", Cond.fieldLink RX8 62 "TankChainModel" "isTemple" "[Z", Cond.fieldLink RX8 65 "TankChainModel" "owners" "[I"]
def wsX8_init_r2 : List Cond := [Cond.fieldLink RX8 68 "TankChainModel" "firstBreach" "I", Cond.fieldLink RX8 72 "TankChainModel" "breaches" "I", Cond.fieldLink RX8 75 "TankChainModel" "breachDay" "I", Cond.arrayClass .byte, Cond.fieldLink RX8 78 "TankChainModel" "tape" "[B", Cond.fieldLink RX8 82 "TankChainModel" "text" "[B", Cond.fieldLink RX8 85 "TankChainModel" "fault" "I", Cond.fieldLink RX8 88 "TankChainModel" "told" "[I", Cond.fieldLink RX8 91 "TankChainModel" "row" "[I", Cond.fieldLink RX8 94 "TankChainModel" "got" "[I", Cond.fieldLink RX8 97 "TankChainModel" "hasMore" "[Z", Cond.fieldLink RX8 100 "TankChainModel" "triedWater" "[I", Cond.fieldLink RX8 103 "TankChainModel" "triedOpening" "[I", Cond.fieldLink RX8 106 "TankChainModel" "triedBreach" "[Z", Cond.methodLink RX8 109 Lib.Math.min.name, Cond.static Lib.Math.min.name, Cond.initialized "java/lang/Math", Cond.code Lib.Math.min.name Lib.Math.min.code 2 (some .int), Cond.methodLink RX8 115 Lib.Math.max.name, Cond.static Lib.Math.max.name, Cond.code Lib.Math.max.name Lib.Math.max.code 2 (some .int), Cond.fieldLink RX8 118 "TankChainModel" "tanks" "I"]
def wsX8_init : List Cond := .code yX8_init cX8_init 3 none :: ((wsX8_init_r1 ++ wsX8_init_r2) ++ wsX80)
def wsX8_isIn : List Cond := .code yX8_isIn cX8_isIn 3 (some .boolean) :: ([])
def wsX8_one : List Cond := .code yX8_one cX8_one 1 (some .int) :: ([])
def wsX8_isTank : List Cond := .code yX8_isTank cX8_isTank 2 (some .boolean) :: ([.fieldLink RX8 118 "TankChainModel" "tanks" "I", .methodLink RX8 121 yX8_isIn, .static yX8_isIn, .initialized RX8, .code yX8_isIn cX8_isIn 3 (some .boolean)] ++ wsX80)
def wsX8_tank : List Cond := .code yX8_tank cX8_tank 5 (some .boolean) :: ([.fieldLink RX8 129 "TankChainModel" "day" "I", .fieldLink RX8 7 "TankChainModel" "catches" "[I", .fieldLink RX8 13 "TankChainModel" "size" "[I", .fieldLink RX8 16 "TankChainModel" "bank" "[I", .methodLink RX8 125 yX8_isTank, .instanceMethod yX8_isTank, .selects RX8 yX8_isTank yX8_isTank, .initialized RX8, .code yX8_isTank cX8_isTank 2 (some .boolean), .fieldLink RX8 118 "TankChainModel" "tanks" "I", .methodLink RX8 121 yX8_isIn, .static yX8_isIn, .code yX8_isIn cX8_isIn 3 (some .boolean)] ++ wsX80)
def wsX8_room : List Cond := .code yX8_room cX8_room 3 (some .int) :: ([.fieldLink RX8 13 "TankChainModel" "size" "[I", .fieldLink RX8 25 "TankChainModel" "silt" "[I"] ++ wsX80)
def wsX8_water : List Cond := .code yX8_water cX8_water 3 (some .boolean) :: ([.fieldLink RX8 37 "TankChainModel" "isBreached" "[Z", .fieldLink RX8 136 "TankChainModel" "toldMore" "I", .fieldLink RX8 19 "TankChainModel" "water" "[I", .methodLink RX8 125 yX8_isTank, .instanceMethod yX8_isTank, .selects RX8 yX8_isTank yX8_isTank, .initialized RX8, .code yX8_isTank cX8_isTank 2 (some .boolean), .fieldLink RX8 118 "TankChainModel" "tanks" "I", .methodLink RX8 121 yX8_isIn, .static yX8_isIn, .code yX8_isIn cX8_isIn 3 (some .boolean), .methodLink RX8 132 yX8_room, .instanceMethod yX8_room, .selects RX8 yX8_room yX8_room, .code yX8_room cX8_room 3 (some .int), .fieldLink RX8 13 "TankChainModel" "size" "[I", .fieldLink RX8 25 "TankChainModel" "silt" "[I"] ++ wsX80)
def wsX8_field : List Cond := .code yX8_field cX8_field 6 (some .int) :: ([.fieldLink RX8 139 "TankChainModel" "fields" "I", .fieldLink RX8 41 "TankChainModel" "fieldTank" "[I", .fieldLink RX8 44 "TankChainModel" "far" "[I", .fieldLink RX8 47 "TankChainModel" "area" "[I", .fieldLink RX8 50 "TankChainModel" "owner" "[I", .fieldLink RX8 62 "TankChainModel" "isTemple" "[Z", .methodLink RX8 125 yX8_isTank, .instanceMethod yX8_isTank, .selects RX8 yX8_isTank yX8_isTank, .initialized RX8, .code yX8_isTank cX8_isTank 2 (some .boolean), .fieldLink RX8 118 "TankChainModel" "tanks" "I", .methodLink RX8 121 yX8_isIn, .static yX8_isIn, .code yX8_isIn cX8_isIn 3 (some .boolean)] ++ wsX80)
def wsX8_open : List Cond := .code yX8_open cX8_open 3 (some .boolean) :: ([.fieldLink RX8 22 "TankChainModel" "opening" "[I", .methodLink RX8 125 yX8_isTank, .instanceMethod yX8_isTank, .selects RX8 yX8_isTank yX8_isTank, .initialized RX8, .code yX8_isTank cX8_isTank 2 (some .boolean), .fieldLink RX8 118 "TankChainModel" "tanks" "I", .methodLink RX8 121 yX8_isIn, .static yX8_isIn, .code yX8_isIn cX8_isIn 3 (some .boolean)] ++ wsX80)
def wsX8_mend : List Cond := .code yX8_mend cX8_mend 3 (some .boolean) :: ([.fieldLink RX8 16 "TankChainModel" "bank" "[I", .fieldLink RX8 37 "TankChainModel" "isBreached" "[Z", .methodLink RX8 125 yX8_isTank, .instanceMethod yX8_isTank, .selects RX8 yX8_isTank yX8_isTank, .initialized RX8, .code yX8_isTank cX8_isTank 2 (some .boolean), .fieldLink RX8 118 "TankChainModel" "tanks" "I", .methodLink RX8 121 yX8_isIn, .static yX8_isIn, .code yX8_isIn cX8_isIn 3 (some .boolean)] ++ wsX80)
def wsX8_dredge : List Cond := .code yX8_dredge cX8_dredge 3 (some .int) :: ([.fieldLink RX8 25 "TankChainModel" "silt" "[I", .methodLink RX8 125 yX8_isTank, .instanceMethod yX8_isTank, .selects RX8 yX8_isTank yX8_isTank, .initialized RX8, .code yX8_isTank cX8_isTank 2 (some .boolean), .fieldLink RX8 118 "TankChainModel" "tanks" "I", .methodLink RX8 121 yX8_isIn, .static yX8_isIn, .code yX8_isIn cX8_isIn 3 (some .boolean)] ++ wsX80)
def wsX8_custom : List Cond := .code yX8_custom cX8_custom 3 (some .int) :: ([.fieldLink RX8 142 "TankChainModel" "hasCustom" "Z", .fieldLink RX8 88 "TankChainModel" "told" "[I"] ++ wsX80)
def wsX8_four : List Cond := .code yX8_four cX8_four 3 none :: ([.fieldLink RX8 78 "TankChainModel" "tape" "[B", .fieldLink RX8 146 "TankChainModel" "taped" "I"] ++ wsX80)
def wsX8_feed : List Cond := .code yX8_feed cX8_feed 6 (some .int) :: ([.fieldLink RX8 146 "TankChainModel" "taped" "I", .methodLink RX8 149 yX8_four, .instanceMethod yX8_four, .selects RX8 yX8_four yX8_four, .initialized RX8, .code yX8_four cX8_four 3 none, .fieldLink RX8 78 "TankChainModel" "tape" "[B"] ++ wsX80)
def wsX8_blanks : List Cond := .code yX8_blanks cX8_blanks 1 none :: ([.fieldLink RX8 153 "TankChainModel" "place" "I", .fieldLink RX8 156 "TankChainModel" "end" "I", .fieldLink RX8 82 "TankChainModel" "text" "[B"] ++ wsX80)
def wsX8_word : List Cond := .code yX8_word cX8_word 3 (some .long) :: ([.fieldLink RX8 153 "TankChainModel" "place" "I", .fieldLink RX8 162 "TankChainModel" "wordEnd" "I", .fieldLink RX8 156 "TankChainModel" "end" "I", .fieldLink RX8 82 "TankChainModel" "text" "[B", .methodLink RX8 159 yX8_blanks, .instanceMethod yX8_blanks, .selects RX8 yX8_blanks yX8_blanks, .initialized RX8, .code yX8_blanks cX8_blanks 1 none] ++ wsX80)
def wsX8_takes : List Cond := .code yX8_takes cX8_takes 3 (some .boolean) :: ([.fieldLink RX8 162 "TankChainModel" "wordEnd" "I", .fieldLink RX8 153 "TankChainModel" "place" "I", .methodLink RX8 165 yX8_word, .instanceMethod yX8_word, .selects RX8 yX8_word yX8_word, .initialized RX8, .code yX8_word cX8_word 3 (some .long), .fieldLink RX8 156 "TankChainModel" "end" "I", .fieldLink RX8 82 "TankChainModel" "text" "[B", .methodLink RX8 159 yX8_blanks, .instanceMethod yX8_blanks, .selects RX8 yX8_blanks yX8_blanks, .code yX8_blanks cX8_blanks 1 none] ++ wsX80)
def wsX8_takesNumber : List Cond := .code yX8_takesNumber cX8_takesNumber 2 (some .boolean) :: ([.fieldLink RX8 153 "TankChainModel" "place" "I", .fieldLink RX8 169 "TankChainModel" "number" "I", .fieldLink RX8 156 "TankChainModel" "end" "I", .fieldLink RX8 82 "TankChainModel" "text" "[B", .methodLink RX8 159 yX8_blanks, .instanceMethod yX8_blanks, .selects RX8 yX8_blanks yX8_blanks, .initialized RX8, .code yX8_blanks cX8_blanks 1 none] ++ wsX80)
def wsX8_statement_r1 : List Cond := [Cond.constantLong RX8 172 (439855772532), Cond.constantLong RX8 178 (127978976603237), Cond.constantLong RX8 180 (495756340332), Cond.constantLong RX8 182 (1852137842), Cond.fieldLink RX8 88 "TankChainModel" "told" "[I", Cond.fieldLink RX8 169 "TankChainModel" "number" "I", Cond.constantLong RX8 188 (1752132708), Cond.constantLong RX8 190 (1717660018), Cond.fieldLink RX8 153 "TankChainModel" "place" "I", Cond.fieldLink RX8 156 "TankChainModel" "end" "I", Cond.fieldLink RX8 82 "TankChainModel" "text" "[B", Cond.methodLink RX8 174 yX8_takes, Cond.instanceMethod yX8_takes, Cond.selects RX8 yX8_takes yX8_takes, Cond.initialized RX8, Cond.code yX8_takes cX8_takes 3 (some .boolean), Cond.fieldLink RX8 162 "TankChainModel" "wordEnd" "I", Cond.methodLink RX8 165 yX8_word, Cond.instanceMethod yX8_word, Cond.selects RX8 yX8_word yX8_word, Cond.code yX8_word cX8_word 3 (some .long), Cond.methodLink RX8 159 yX8_blanks, Cond.instanceMethod yX8_blanks, Cond.selects RX8 yX8_blanks yX8_blanks]
def wsX8_statement_r2 : List Cond := [Cond.code yX8_blanks cX8_blanks 1 none, Cond.methodLink RX8 184 yX8_takesNumber, Cond.instanceMethod yX8_takesNumber, Cond.selects RX8 yX8_takesNumber yX8_takesNumber, Cond.code yX8_takesNumber cX8_takesNumber 2 (some .boolean)]
def wsX8_statement : List Cond := .code yX8_statement cX8_statement 2 (some .boolean) :: ((wsX8_statement_r1 ++ wsX8_statement_r2) ++ wsX80)
def wsX8_custom__r1 : List Cond := [Cond.fieldLink RX8 146 "TankChainModel" "taped" "I", Cond.fieldLink RX8 82 "TankChainModel" "text" "[B", Cond.fieldLink RX8 78 "TankChainModel" "tape" "[B", Cond.fieldLink RX8 156 "TankChainModel" "end" "I", Cond.fieldLink RX8 153 "TankChainModel" "place" "I", Cond.fieldLink RX8 88 "TankChainModel" "told" "[I", Cond.fieldLink RX8 85 "TankChainModel" "fault" "I", Cond.fieldLink RX8 142 "TankChainModel" "hasCustom" "Z", Cond.methodLink RX8 121 yX8_isIn, Cond.static yX8_isIn, Cond.initialized RX8, Cond.code yX8_isIn cX8_isIn 3 (some .boolean), Cond.methodLink RX8 159 yX8_blanks, Cond.instanceMethod yX8_blanks, Cond.selects RX8 yX8_blanks yX8_blanks, Cond.code yX8_blanks cX8_blanks 1 none, Cond.methodLink RX8 192 yX8_statement, Cond.instanceMethod yX8_statement, Cond.selects RX8 yX8_statement yX8_statement, Cond.code yX8_statement cX8_statement 2 (some .boolean), Cond.constantLong RX8 172 (439855772532), Cond.constantLong RX8 178 (127978976603237), Cond.constantLong RX8 180 (495756340332), Cond.constantLong RX8 182 (1852137842)]
def wsX8_custom__r2 : List Cond := [Cond.fieldLink RX8 169 "TankChainModel" "number" "I", Cond.constantLong RX8 188 (1752132708), Cond.constantLong RX8 190 (1717660018), Cond.methodLink RX8 174 yX8_takes, Cond.instanceMethod yX8_takes, Cond.selects RX8 yX8_takes yX8_takes, Cond.code yX8_takes cX8_takes 3 (some .boolean), Cond.fieldLink RX8 162 "TankChainModel" "wordEnd" "I", Cond.methodLink RX8 165 yX8_word, Cond.instanceMethod yX8_word, Cond.selects RX8 yX8_word yX8_word, Cond.code yX8_word cX8_word 3 (some .long), Cond.methodLink RX8 184 yX8_takesNumber, Cond.instanceMethod yX8_takesNumber, Cond.selects RX8 yX8_takesNumber yX8_takesNumber, Cond.code yX8_takesNumber cX8_takesNumber 2 (some .boolean)]
def wsX8_custom_ : List Cond := .code yX8_custom_ cX8_custom_ 5 (some .int) :: ((wsX8_custom__r1 ++ wsX8_custom__r2) ++ wsX80)
def wsX8_fault : List Cond := .code yX8_fault cX8_fault 1 (some .int) :: ([.fieldLink RX8 85 "TankChainModel" "fault" "I"] ++ wsX80)
def wsX8_isAhead : List Cond := .code yX8_isAhead cX8_isAhead 5 (some .boolean) :: ([.fieldLink RX8 88 "TankChainModel" "told" "[I", .fieldLink RX8 62 "TankChainModel" "isTemple" "[Z", .fieldLink RX8 47 "TankChainModel" "area" "[I", .fieldLink RX8 44 "TankChainModel" "far" "[I", .methodLink RX8 195 yX8_custom, .instanceMethod yX8_custom, .selects RX8 yX8_custom yX8_custom, .initialized RX8, .code yX8_custom cX8_custom 3 (some .int), .fieldLink RX8 142 "TankChainModel" "hasCustom" "Z", .methodLink RX8 198 yX8_one, .static yX8_one, .code yX8_one cX8_one 1 (some .int)] ++ wsX80)
def wsX8_ordered : List Cond := .code yX8_ordered cX8_ordered 5 (some .int) :: ([.fieldLink RX8 139 "TankChainModel" "fields" "I", .fieldLink RX8 41 "TankChainModel" "fieldTank" "[I", .fieldLink RX8 91 "TankChainModel" "row" "[I", .methodLink RX8 202 yX8_isAhead, .instanceMethod yX8_isAhead, .selects RX8 yX8_isAhead yX8_isAhead, .initialized RX8, .code yX8_isAhead cX8_isAhead 5 (some .boolean), .fieldLink RX8 88 "TankChainModel" "told" "[I", .fieldLink RX8 62 "TankChainModel" "isTemple" "[Z", .fieldLink RX8 47 "TankChainModel" "area" "[I", .fieldLink RX8 44 "TankChainModel" "far" "[I", .methodLink RX8 195 yX8_custom, .instanceMethod yX8_custom, .selects RX8 yX8_custom yX8_custom, .code yX8_custom cX8_custom 3 (some .int), .fieldLink RX8 142 "TankChainModel" "hasCustom" "Z", .methodLink RX8 198 yX8_one, .static yX8_one, .code yX8_one cX8_one 1 (some .int)] ++ wsX80)
def wsX8_order_r1 : List Cond := [Cond.fieldLink RX8 91 "TankChainModel" "row" "[I", Cond.methodLink RX8 125 yX8_isTank, Cond.instanceMethod yX8_isTank, Cond.selects RX8 yX8_isTank yX8_isTank, Cond.initialized RX8, Cond.code yX8_isTank cX8_isTank 2 (some .boolean), Cond.fieldLink RX8 118 "TankChainModel" "tanks" "I", Cond.methodLink RX8 121 yX8_isIn, Cond.static yX8_isIn, Cond.code yX8_isIn cX8_isIn 3 (some .boolean), Cond.methodLink RX8 206 yX8_ordered, Cond.instanceMethod yX8_ordered, Cond.selects RX8 yX8_ordered yX8_ordered, Cond.code yX8_ordered cX8_ordered 5 (some .int), Cond.fieldLink RX8 139 "TankChainModel" "fields" "I", Cond.fieldLink RX8 41 "TankChainModel" "fieldTank" "[I", Cond.methodLink RX8 202 yX8_isAhead, Cond.instanceMethod yX8_isAhead, Cond.selects RX8 yX8_isAhead yX8_isAhead, Cond.code yX8_isAhead cX8_isAhead 5 (some .boolean), Cond.fieldLink RX8 88 "TankChainModel" "told" "[I", Cond.fieldLink RX8 62 "TankChainModel" "isTemple" "[Z", Cond.fieldLink RX8 47 "TankChainModel" "area" "[I", Cond.fieldLink RX8 44 "TankChainModel" "far" "[I"]
def wsX8_order_r2 : List Cond := [Cond.methodLink RX8 195 yX8_custom, Cond.instanceMethod yX8_custom, Cond.selects RX8 yX8_custom yX8_custom, Cond.code yX8_custom cX8_custom 3 (some .int), Cond.fieldLink RX8 142 "TankChainModel" "hasCustom" "Z", Cond.methodLink RX8 198 yX8_one, Cond.static yX8_one, Cond.code yX8_one cX8_one 1 (some .int)]
def wsX8_order : List Cond := .code yX8_order cX8_order 4 (some .int) :: ((wsX8_order_r1 ++ wsX8_order_r2) ++ wsX80)
def wsX8_isBad : List Cond := .code yX8_isBad cX8_isBad 3 (some .boolean) :: ([.fieldLink RX8 13 "TankChainModel" "size" "[I"] ++ wsX80)
def wsX8_gives_r1 : List Cond := [Cond.fieldLink RX8 13 "TankChainModel" "size" "[I", Cond.methodLink RX8 115 Lib.Math.max.name, Cond.static Lib.Math.max.name, Cond.initialized "java/lang/Math", Cond.code Lib.Math.max.name Lib.Math.max.code 2 (some .int), Cond.methodLink RX8 109 Lib.Math.min.name, Cond.static Lib.Math.min.name, Cond.code Lib.Math.min.name Lib.Math.min.code 2 (some .int), Cond.fieldLink RX8 91 "TankChainModel" "row" "[I", Cond.fieldLink RX8 94 "TankChainModel" "got" "[I", Cond.fieldLink RX8 97 "TankChainModel" "hasMore" "[Z", Cond.fieldLink RX8 44 "TankChainModel" "far" "[I", Cond.fieldLink RX8 47 "TankChainModel" "area" "[I", Cond.methodLink RX8 195 yX8_custom, Cond.instanceMethod yX8_custom, Cond.selects RX8 yX8_custom yX8_custom, Cond.initialized RX8, Cond.code yX8_custom cX8_custom 3 (some .int), Cond.fieldLink RX8 142 "TankChainModel" "hasCustom" "Z", Cond.fieldLink RX8 88 "TankChainModel" "told" "[I", Cond.methodLink RX8 206 yX8_ordered, Cond.instanceMethod yX8_ordered, Cond.selects RX8 yX8_ordered yX8_ordered, Cond.code yX8_ordered cX8_ordered 5 (some .int)]
def wsX8_gives_r2 : List Cond := [Cond.fieldLink RX8 139 "TankChainModel" "fields" "I", Cond.fieldLink RX8 41 "TankChainModel" "fieldTank" "[I", Cond.methodLink RX8 202 yX8_isAhead, Cond.instanceMethod yX8_isAhead, Cond.selects RX8 yX8_isAhead yX8_isAhead, Cond.code yX8_isAhead cX8_isAhead 5 (some .boolean), Cond.fieldLink RX8 62 "TankChainModel" "isTemple" "[Z", Cond.methodLink RX8 198 yX8_one, Cond.static yX8_one, Cond.code yX8_one cX8_one 1 (some .int), Cond.methodLink RX8 210 yX8_isBad, Cond.instanceMethod yX8_isBad, Cond.selects RX8 yX8_isBad yX8_isBad, Cond.code yX8_isBad cX8_isBad 3 (some .boolean)]
def wsX8_gives : List Cond := .code yX8_gives cX8_gives 11 (some .int) :: ((wsX8_gives_r1 ++ wsX8_gives_r2) ++ wsX80)
def wsX8_flows_r1 : List Cond := [Cond.fieldLink RX8 118 "TankChainModel" "tanks" "I", Cond.fieldLink RX8 7 "TankChainModel" "catches" "[I", Cond.methodLink RX8 115 Lib.Math.max.name, Cond.static Lib.Math.max.name, Cond.initialized "java/lang/Math", Cond.code Lib.Math.max.name Lib.Math.max.code 2 (some .int), Cond.fieldLink RX8 16 "TankChainModel" "bank" "[I", Cond.fieldLink RX8 139 "TankChainModel" "fields" "I", Cond.fieldLink RX8 41 "TankChainModel" "fieldTank" "[I", Cond.fieldLink RX8 94 "TankChainModel" "got" "[I", Cond.fieldLink RX8 47 "TankChainModel" "area" "[I", Cond.fieldLink RX8 28 "TankChainModel" "taken" "[I", Cond.fieldLink RX8 31 "TankChainModel" "spilt" "[I", Cond.fieldLink RX8 217 "TankChainModel" "seeped" "I", Cond.fieldLink RX8 220 "TankChainModel" "kept" "I", Cond.fieldLink RX8 223 "TankChainModel" "rained" "I", Cond.fieldLink RX8 59 "TankChainModel" "lastGot" "[I", Cond.fieldLink RX8 56 "TankChainModel" "allGot" "[I", Cond.fieldLink RX8 53 "TankChainModel" "daysFed" "[I", Cond.fieldLink RX8 65 "TankChainModel" "owners" "[I", Cond.fieldLink RX8 50 "TankChainModel" "owner" "[I", Cond.fieldLink RX8 34 "TankChainModel" "breachedOn" "[I", Cond.fieldLink RX8 129 "TankChainModel" "day" "I", Cond.fieldLink RX8 68 "TankChainModel" "firstBreach" "I"]
def wsX8_flows_r2 : List Cond := [Cond.fieldLink RX8 72 "TankChainModel" "breaches" "I", Cond.fieldLink RX8 75 "TankChainModel" "breachDay" "I", Cond.fieldLink RX8 226 "TankChainModel" "out" "I", Cond.methodLink RX8 213 yX8_gives, Cond.instanceMethod yX8_gives, Cond.selects RX8 yX8_gives yX8_gives, Cond.initialized RX8, Cond.code yX8_gives cX8_gives 11 (some .int), Cond.fieldLink RX8 13 "TankChainModel" "size" "[I", Cond.methodLink RX8 109 Lib.Math.min.name, Cond.static Lib.Math.min.name, Cond.code Lib.Math.min.name Lib.Math.min.code 2 (some .int), Cond.fieldLink RX8 91 "TankChainModel" "row" "[I", Cond.fieldLink RX8 97 "TankChainModel" "hasMore" "[Z", Cond.fieldLink RX8 44 "TankChainModel" "far" "[I", Cond.methodLink RX8 195 yX8_custom, Cond.instanceMethod yX8_custom, Cond.selects RX8 yX8_custom yX8_custom, Cond.code yX8_custom cX8_custom 3 (some .int), Cond.fieldLink RX8 142 "TankChainModel" "hasCustom" "Z", Cond.fieldLink RX8 88 "TankChainModel" "told" "[I", Cond.methodLink RX8 206 yX8_ordered, Cond.instanceMethod yX8_ordered, Cond.selects RX8 yX8_ordered yX8_ordered]
def wsX8_flows_r3 : List Cond := [Cond.code yX8_ordered cX8_ordered 5 (some .int), Cond.methodLink RX8 202 yX8_isAhead, Cond.instanceMethod yX8_isAhead, Cond.selects RX8 yX8_isAhead yX8_isAhead, Cond.code yX8_isAhead cX8_isAhead 5 (some .boolean), Cond.fieldLink RX8 62 "TankChainModel" "isTemple" "[Z", Cond.methodLink RX8 198 yX8_one, Cond.static yX8_one, Cond.code yX8_one cX8_one 1 (some .int), Cond.methodLink RX8 210 yX8_isBad, Cond.instanceMethod yX8_isBad, Cond.selects RX8 yX8_isBad yX8_isBad, Cond.code yX8_isBad cX8_isBad 3 (some .boolean), Cond.methodLink RX8 132 yX8_room, Cond.instanceMethod yX8_room, Cond.selects RX8 yX8_room yX8_room, Cond.code yX8_room cX8_room 3 (some .int), Cond.fieldLink RX8 25 "TankChainModel" "silt" "[I"]
def wsX8_flows : List Cond := .code yX8_flows cX8_flows 16 (some .int) :: ((wsX8_flows_r1 ++ (wsX8_flows_r2 ++ wsX8_flows_r3)) ++ wsX80)
def wsX8_day_r1 : List Cond := [Cond.fieldLink RX8 129 "TankChainModel" "day" "I", Cond.fieldLink RX8 229 "TankChainModel" "rain" "I", Cond.fieldLink RX8 118 "TankChainModel" "tanks" "I", Cond.fieldLink RX8 25 "TankChainModel" "silt" "[I", Cond.fieldLink RX8 13 "TankChainModel" "size" "[I", Cond.methodLink RX8 109 Lib.Math.min.name, Cond.static Lib.Math.min.name, Cond.initialized "java/lang/Math", Cond.code Lib.Math.min.name Lib.Math.min.code 2 (some .int), Cond.fieldLink RX8 19 "TankChainModel" "water" "[I", Cond.fieldLink RX8 37 "TankChainModel" "isBreached" "[Z", Cond.fieldLink RX8 22 "TankChainModel" "opening" "[I", Cond.methodLink RX8 121 yX8_isIn, Cond.static yX8_isIn, Cond.initialized RX8, Cond.code yX8_isIn cX8_isIn 3 (some .boolean), Cond.methodLink RX8 232 yX8_flows, Cond.instanceMethod yX8_flows, Cond.selects RX8 yX8_flows yX8_flows, Cond.code yX8_flows cX8_flows 16 (some .int), Cond.fieldLink RX8 7 "TankChainModel" "catches" "[I", Cond.methodLink RX8 115 Lib.Math.max.name, Cond.static Lib.Math.max.name, Cond.code Lib.Math.max.name Lib.Math.max.code 2 (some .int)]
def wsX8_day_r2 : List Cond := [Cond.fieldLink RX8 16 "TankChainModel" "bank" "[I", Cond.fieldLink RX8 139 "TankChainModel" "fields" "I", Cond.fieldLink RX8 41 "TankChainModel" "fieldTank" "[I", Cond.fieldLink RX8 94 "TankChainModel" "got" "[I", Cond.fieldLink RX8 47 "TankChainModel" "area" "[I", Cond.fieldLink RX8 28 "TankChainModel" "taken" "[I", Cond.fieldLink RX8 31 "TankChainModel" "spilt" "[I", Cond.fieldLink RX8 217 "TankChainModel" "seeped" "I", Cond.fieldLink RX8 220 "TankChainModel" "kept" "I", Cond.fieldLink RX8 223 "TankChainModel" "rained" "I", Cond.fieldLink RX8 59 "TankChainModel" "lastGot" "[I", Cond.fieldLink RX8 56 "TankChainModel" "allGot" "[I", Cond.fieldLink RX8 53 "TankChainModel" "daysFed" "[I", Cond.fieldLink RX8 65 "TankChainModel" "owners" "[I", Cond.fieldLink RX8 50 "TankChainModel" "owner" "[I", Cond.fieldLink RX8 34 "TankChainModel" "breachedOn" "[I", Cond.fieldLink RX8 68 "TankChainModel" "firstBreach" "I", Cond.fieldLink RX8 72 "TankChainModel" "breaches" "I", Cond.fieldLink RX8 75 "TankChainModel" "breachDay" "I", Cond.fieldLink RX8 226 "TankChainModel" "out" "I", Cond.methodLink RX8 213 yX8_gives, Cond.instanceMethod yX8_gives, Cond.selects RX8 yX8_gives yX8_gives, Cond.code yX8_gives cX8_gives 11 (some .int)]
def wsX8_day_r3 : List Cond := [Cond.fieldLink RX8 91 "TankChainModel" "row" "[I", Cond.fieldLink RX8 97 "TankChainModel" "hasMore" "[Z", Cond.fieldLink RX8 44 "TankChainModel" "far" "[I", Cond.methodLink RX8 195 yX8_custom, Cond.instanceMethod yX8_custom, Cond.selects RX8 yX8_custom yX8_custom, Cond.code yX8_custom cX8_custom 3 (some .int), Cond.fieldLink RX8 142 "TankChainModel" "hasCustom" "Z", Cond.fieldLink RX8 88 "TankChainModel" "told" "[I", Cond.methodLink RX8 206 yX8_ordered, Cond.instanceMethod yX8_ordered, Cond.selects RX8 yX8_ordered yX8_ordered, Cond.code yX8_ordered cX8_ordered 5 (some .int), Cond.methodLink RX8 202 yX8_isAhead, Cond.instanceMethod yX8_isAhead, Cond.selects RX8 yX8_isAhead yX8_isAhead, Cond.code yX8_isAhead cX8_isAhead 5 (some .boolean), Cond.fieldLink RX8 62 "TankChainModel" "isTemple" "[Z", Cond.methodLink RX8 198 yX8_one, Cond.static yX8_one, Cond.code yX8_one cX8_one 1 (some .int), Cond.methodLink RX8 210 yX8_isBad, Cond.instanceMethod yX8_isBad, Cond.selects RX8 yX8_isBad yX8_isBad]
def wsX8_day_r4 : List Cond := [Cond.code yX8_isBad cX8_isBad 3 (some .boolean), Cond.methodLink RX8 132 yX8_room, Cond.instanceMethod yX8_room, Cond.selects RX8 yX8_room yX8_room, Cond.code yX8_room cX8_room 3 (some .int)]
def wsX8_day : List Cond := .code yX8_day cX8_day 3 (some .int) :: ((wsX8_day_r1 ++ (wsX8_day_r2 ++ (wsX8_day_r3 ++ wsX8_day_r4))) ++ wsX80)
def wsX8_told_r1 : List Cond := [Cond.fieldLink RX8 7 "TankChainModel" "catches" "[I", Cond.fieldLink RX8 13 "TankChainModel" "size" "[I", Cond.fieldLink RX8 16 "TankChainModel" "bank" "[I", Cond.fieldLink RX8 19 "TankChainModel" "water" "[I", Cond.fieldLink RX8 22 "TankChainModel" "opening" "[I", Cond.fieldLink RX8 25 "TankChainModel" "silt" "[I", Cond.fieldLink RX8 37 "TankChainModel" "isBreached" "[Z", Cond.fieldLink RX8 28 "TankChainModel" "taken" "[I", Cond.fieldLink RX8 31 "TankChainModel" "spilt" "[I", Cond.fieldLink RX8 34 "TankChainModel" "breachedOn" "[I", Cond.methodLink RX8 125 yX8_isTank, Cond.instanceMethod yX8_isTank, Cond.selects RX8 yX8_isTank yX8_isTank, Cond.initialized RX8, Cond.code yX8_isTank cX8_isTank 2 (some .boolean), Cond.fieldLink RX8 118 "TankChainModel" "tanks" "I", Cond.methodLink RX8 121 yX8_isIn, Cond.static yX8_isIn, Cond.code yX8_isIn cX8_isIn 3 (some .boolean), Cond.methodLink RX8 198 yX8_one, Cond.static yX8_one, Cond.code yX8_one cX8_one 1 (some .int), Cond.methodLink RX8 132 yX8_room, Cond.instanceMethod yX8_room]
def wsX8_told_r2 : List Cond := [Cond.selects RX8 yX8_room yX8_room, Cond.code yX8_room cX8_room 3 (some .int), Cond.methodLink RX8 210 yX8_isBad, Cond.instanceMethod yX8_isBad, Cond.selects RX8 yX8_isBad yX8_isBad, Cond.code yX8_isBad cX8_isBad 3 (some .boolean)]
def wsX8_told : List Cond := .code yX8_told cX8_told 3 (some .int) :: ((wsX8_told_r1 ++ wsX8_told_r2) ++ wsX80)
def wsX8_fieldOf : List Cond := .code yX8_fieldOf cX8_fieldOf 3 (some .int) :: ([.fieldLink RX8 139 "TankChainModel" "fields" "I", .fieldLink RX8 41 "TankChainModel" "fieldTank" "[I", .fieldLink RX8 44 "TankChainModel" "far" "[I", .fieldLink RX8 47 "TankChainModel" "area" "[I", .fieldLink RX8 50 "TankChainModel" "owner" "[I", .fieldLink RX8 62 "TankChainModel" "isTemple" "[Z", .fieldLink RX8 53 "TankChainModel" "daysFed" "[I", .fieldLink RX8 56 "TankChainModel" "allGot" "[I", .fieldLink RX8 59 "TankChainModel" "lastGot" "[I", .methodLink RX8 121 yX8_isIn, .static yX8_isIn, .initialized RX8, .code yX8_isIn cX8_isIn 3 (some .boolean), .methodLink RX8 198 yX8_one, .static yX8_one, .code yX8_one cX8_one 1 (some .int)] ++ wsX80)
def wsX8_owner : List Cond := .code yX8_owner cX8_owner 2 (some .int) :: ([.fieldLink RX8 65 "TankChainModel" "owners" "[I", .methodLink RX8 121 yX8_isIn, .static yX8_isIn, .initialized RX8, .code yX8_isIn cX8_isIn 3 (some .boolean)] ++ wsX80)
def wsX8_tries_r1 : List Cond := [Cond.fieldLink RX8 118 "TankChainModel" "tanks" "I", Cond.fieldLink RX8 100 "TankChainModel" "triedWater" "[I", Cond.fieldLink RX8 19 "TankChainModel" "water" "[I", Cond.fieldLink RX8 106 "TankChainModel" "triedBreach" "[Z", Cond.fieldLink RX8 37 "TankChainModel" "isBreached" "[Z", Cond.fieldLink RX8 103 "TankChainModel" "triedOpening" "[I", Cond.methodLink RX8 232 yX8_flows, Cond.instanceMethod yX8_flows, Cond.selects RX8 yX8_flows yX8_flows, Cond.initialized RX8, Cond.code yX8_flows cX8_flows 16 (some .int), Cond.fieldLink RX8 7 "TankChainModel" "catches" "[I", Cond.methodLink RX8 115 Lib.Math.max.name, Cond.static Lib.Math.max.name, Cond.initialized "java/lang/Math", Cond.code Lib.Math.max.name Lib.Math.max.code 2 (some .int), Cond.fieldLink RX8 16 "TankChainModel" "bank" "[I", Cond.fieldLink RX8 139 "TankChainModel" "fields" "I", Cond.fieldLink RX8 41 "TankChainModel" "fieldTank" "[I", Cond.fieldLink RX8 94 "TankChainModel" "got" "[I", Cond.fieldLink RX8 47 "TankChainModel" "area" "[I", Cond.fieldLink RX8 28 "TankChainModel" "taken" "[I", Cond.fieldLink RX8 31 "TankChainModel" "spilt" "[I", Cond.fieldLink RX8 217 "TankChainModel" "seeped" "I"]
def wsX8_tries_r2 : List Cond := [Cond.fieldLink RX8 220 "TankChainModel" "kept" "I", Cond.fieldLink RX8 223 "TankChainModel" "rained" "I", Cond.fieldLink RX8 59 "TankChainModel" "lastGot" "[I", Cond.fieldLink RX8 56 "TankChainModel" "allGot" "[I", Cond.fieldLink RX8 53 "TankChainModel" "daysFed" "[I", Cond.fieldLink RX8 65 "TankChainModel" "owners" "[I", Cond.fieldLink RX8 50 "TankChainModel" "owner" "[I", Cond.fieldLink RX8 34 "TankChainModel" "breachedOn" "[I", Cond.fieldLink RX8 129 "TankChainModel" "day" "I", Cond.fieldLink RX8 68 "TankChainModel" "firstBreach" "I", Cond.fieldLink RX8 72 "TankChainModel" "breaches" "I", Cond.fieldLink RX8 75 "TankChainModel" "breachDay" "I", Cond.fieldLink RX8 226 "TankChainModel" "out" "I", Cond.methodLink RX8 213 yX8_gives, Cond.instanceMethod yX8_gives, Cond.selects RX8 yX8_gives yX8_gives, Cond.code yX8_gives cX8_gives 11 (some .int), Cond.fieldLink RX8 13 "TankChainModel" "size" "[I", Cond.methodLink RX8 109 Lib.Math.min.name, Cond.static Lib.Math.min.name, Cond.code Lib.Math.min.name Lib.Math.min.code 2 (some .int), Cond.fieldLink RX8 91 "TankChainModel" "row" "[I", Cond.fieldLink RX8 97 "TankChainModel" "hasMore" "[Z", Cond.fieldLink RX8 44 "TankChainModel" "far" "[I"]
def wsX8_tries_r3 : List Cond := [Cond.methodLink RX8 195 yX8_custom, Cond.instanceMethod yX8_custom, Cond.selects RX8 yX8_custom yX8_custom, Cond.code yX8_custom cX8_custom 3 (some .int), Cond.fieldLink RX8 142 "TankChainModel" "hasCustom" "Z", Cond.fieldLink RX8 88 "TankChainModel" "told" "[I", Cond.methodLink RX8 206 yX8_ordered, Cond.instanceMethod yX8_ordered, Cond.selects RX8 yX8_ordered yX8_ordered, Cond.code yX8_ordered cX8_ordered 5 (some .int), Cond.methodLink RX8 202 yX8_isAhead, Cond.instanceMethod yX8_isAhead, Cond.selects RX8 yX8_isAhead yX8_isAhead, Cond.code yX8_isAhead cX8_isAhead 5 (some .boolean), Cond.fieldLink RX8 62 "TankChainModel" "isTemple" "[Z", Cond.methodLink RX8 198 yX8_one, Cond.static yX8_one, Cond.code yX8_one cX8_one 1 (some .int), Cond.methodLink RX8 210 yX8_isBad, Cond.instanceMethod yX8_isBad, Cond.selects RX8 yX8_isBad yX8_isBad, Cond.code yX8_isBad cX8_isBad 3 (some .boolean), Cond.methodLink RX8 132 yX8_room, Cond.instanceMethod yX8_room]
def wsX8_tries_r4 : List Cond := [Cond.selects RX8 yX8_room yX8_room, Cond.code yX8_room cX8_room 3 (some .int), Cond.fieldLink RX8 25 "TankChainModel" "silt" "[I"]
def wsX8_tries : List Cond := .code yX8_tries cX8_tries 5 (some .int) :: ((wsX8_tries_r1 ++ (wsX8_tries_r2 ++ (wsX8_tries_r3 ++ wsX8_tries_r4))) ++ wsX80)
def wsX8_openings : List Cond := .code yX8_openings cX8_openings 2 none :: ([.fieldLink RX8 118 "TankChainModel" "tanks" "I", .fieldLink RX8 103 "TankChainModel" "triedOpening" "[I", .fieldLink RX8 22 "TankChainModel" "opening" "[I"] ++ wsX80)
def wsX8_isTrial : List Cond := .code yX8_isTrial cX8_isTrial 2 (some .boolean) :: ([.methodLink RX8 121 yX8_isIn, .static yX8_isIn, .initialized RX8, .code yX8_isIn cX8_isIn 3 (some .boolean)])
def wsX8_tried_r1 : List Cond := [Cond.fieldLink RX8 100 "TankChainModel" "triedWater" "[I", Cond.methodLink RX8 125 yX8_isTank, Cond.instanceMethod yX8_isTank, Cond.selects RX8 yX8_isTank yX8_isTank, Cond.initialized RX8, Cond.code yX8_isTank cX8_isTank 2 (some .boolean), Cond.fieldLink RX8 118 "TankChainModel" "tanks" "I", Cond.methodLink RX8 121 yX8_isIn, Cond.static yX8_isIn, Cond.code yX8_isIn cX8_isIn 3 (some .boolean), Cond.methodLink RX8 236 yX8_isTrial, Cond.static yX8_isTrial, Cond.code yX8_isTrial cX8_isTrial 2 (some .boolean), Cond.methodLink RX8 239 yX8_openings, Cond.instanceMethod yX8_openings, Cond.selects RX8 yX8_openings yX8_openings, Cond.code yX8_openings cX8_openings 2 none, Cond.fieldLink RX8 103 "TankChainModel" "triedOpening" "[I", Cond.fieldLink RX8 22 "TankChainModel" "opening" "[I", Cond.methodLink RX8 242 yX8_tries, Cond.instanceMethod yX8_tries, Cond.selects RX8 yX8_tries yX8_tries, Cond.code yX8_tries cX8_tries 5 (some .int), Cond.fieldLink RX8 19 "TankChainModel" "water" "[I"]
def wsX8_tried_r2 : List Cond := [Cond.fieldLink RX8 106 "TankChainModel" "triedBreach" "[Z", Cond.fieldLink RX8 37 "TankChainModel" "isBreached" "[Z", Cond.methodLink RX8 232 yX8_flows, Cond.instanceMethod yX8_flows, Cond.selects RX8 yX8_flows yX8_flows, Cond.code yX8_flows cX8_flows 16 (some .int), Cond.fieldLink RX8 7 "TankChainModel" "catches" "[I", Cond.methodLink RX8 115 Lib.Math.max.name, Cond.static Lib.Math.max.name, Cond.initialized "java/lang/Math", Cond.code Lib.Math.max.name Lib.Math.max.code 2 (some .int), Cond.fieldLink RX8 16 "TankChainModel" "bank" "[I", Cond.fieldLink RX8 139 "TankChainModel" "fields" "I", Cond.fieldLink RX8 41 "TankChainModel" "fieldTank" "[I", Cond.fieldLink RX8 94 "TankChainModel" "got" "[I", Cond.fieldLink RX8 47 "TankChainModel" "area" "[I", Cond.fieldLink RX8 28 "TankChainModel" "taken" "[I", Cond.fieldLink RX8 31 "TankChainModel" "spilt" "[I", Cond.fieldLink RX8 217 "TankChainModel" "seeped" "I", Cond.fieldLink RX8 220 "TankChainModel" "kept" "I", Cond.fieldLink RX8 223 "TankChainModel" "rained" "I", Cond.fieldLink RX8 59 "TankChainModel" "lastGot" "[I", Cond.fieldLink RX8 56 "TankChainModel" "allGot" "[I", Cond.fieldLink RX8 53 "TankChainModel" "daysFed" "[I"]
def wsX8_tried_r3 : List Cond := [Cond.fieldLink RX8 65 "TankChainModel" "owners" "[I", Cond.fieldLink RX8 50 "TankChainModel" "owner" "[I", Cond.fieldLink RX8 34 "TankChainModel" "breachedOn" "[I", Cond.fieldLink RX8 129 "TankChainModel" "day" "I", Cond.fieldLink RX8 68 "TankChainModel" "firstBreach" "I", Cond.fieldLink RX8 72 "TankChainModel" "breaches" "I", Cond.fieldLink RX8 75 "TankChainModel" "breachDay" "I", Cond.fieldLink RX8 226 "TankChainModel" "out" "I", Cond.methodLink RX8 213 yX8_gives, Cond.instanceMethod yX8_gives, Cond.selects RX8 yX8_gives yX8_gives, Cond.code yX8_gives cX8_gives 11 (some .int), Cond.fieldLink RX8 13 "TankChainModel" "size" "[I", Cond.methodLink RX8 109 Lib.Math.min.name, Cond.static Lib.Math.min.name, Cond.code Lib.Math.min.name Lib.Math.min.code 2 (some .int), Cond.fieldLink RX8 91 "TankChainModel" "row" "[I", Cond.fieldLink RX8 97 "TankChainModel" "hasMore" "[Z", Cond.fieldLink RX8 44 "TankChainModel" "far" "[I", Cond.methodLink RX8 195 yX8_custom, Cond.instanceMethod yX8_custom, Cond.selects RX8 yX8_custom yX8_custom, Cond.code yX8_custom cX8_custom 3 (some .int), Cond.fieldLink RX8 142 "TankChainModel" "hasCustom" "Z"]
def wsX8_tried_r4 : List Cond := [Cond.fieldLink RX8 88 "TankChainModel" "told" "[I", Cond.methodLink RX8 206 yX8_ordered, Cond.instanceMethod yX8_ordered, Cond.selects RX8 yX8_ordered yX8_ordered, Cond.code yX8_ordered cX8_ordered 5 (some .int), Cond.methodLink RX8 202 yX8_isAhead, Cond.instanceMethod yX8_isAhead, Cond.selects RX8 yX8_isAhead yX8_isAhead, Cond.code yX8_isAhead cX8_isAhead 5 (some .boolean), Cond.fieldLink RX8 62 "TankChainModel" "isTemple" "[Z", Cond.methodLink RX8 198 yX8_one, Cond.static yX8_one, Cond.code yX8_one cX8_one 1 (some .int), Cond.methodLink RX8 210 yX8_isBad, Cond.instanceMethod yX8_isBad, Cond.selects RX8 yX8_isBad yX8_isBad, Cond.code yX8_isBad cX8_isBad 3 (some .boolean), Cond.methodLink RX8 132 yX8_room, Cond.instanceMethod yX8_room, Cond.selects RX8 yX8_room yX8_room, Cond.code yX8_room cX8_room 3 (some .int), Cond.fieldLink RX8 25 "TankChainModel" "silt" "[I"]
def wsX8_tried : List Cond := .code yX8_tried cX8_tried 4 (some .int) :: ((wsX8_tried_r1 ++ (wsX8_tried_r2 ++ (wsX8_tried_r3 ++ wsX8_tried_r4))) ++ wsX80)
def wsX8_lost_r1 : List Cond := [Cond.constant RX8 245 (-100000), Cond.fieldLink RX8 100 "TankChainModel" "triedWater" "[I", Cond.fieldLink RX8 103 "TankChainModel" "triedOpening" "[I", Cond.methodLink RX8 125 yX8_isTank, Cond.instanceMethod yX8_isTank, Cond.selects RX8 yX8_isTank yX8_isTank, Cond.initialized RX8, Cond.code yX8_isTank cX8_isTank 2 (some .boolean), Cond.fieldLink RX8 118 "TankChainModel" "tanks" "I", Cond.methodLink RX8 121 yX8_isIn, Cond.static yX8_isIn, Cond.code yX8_isIn cX8_isIn 3 (some .boolean), Cond.methodLink RX8 236 yX8_isTrial, Cond.static yX8_isTrial, Cond.code yX8_isTrial cX8_isTrial 2 (some .boolean), Cond.methodLink RX8 239 yX8_openings, Cond.instanceMethod yX8_openings, Cond.selects RX8 yX8_openings yX8_openings, Cond.code yX8_openings cX8_openings 2 none, Cond.fieldLink RX8 22 "TankChainModel" "opening" "[I", Cond.methodLink RX8 242 yX8_tries, Cond.instanceMethod yX8_tries, Cond.selects RX8 yX8_tries yX8_tries, Cond.code yX8_tries cX8_tries 5 (some .int)]
def wsX8_lost_r2 : List Cond := [Cond.fieldLink RX8 19 "TankChainModel" "water" "[I", Cond.fieldLink RX8 106 "TankChainModel" "triedBreach" "[Z", Cond.fieldLink RX8 37 "TankChainModel" "isBreached" "[Z", Cond.methodLink RX8 232 yX8_flows, Cond.instanceMethod yX8_flows, Cond.selects RX8 yX8_flows yX8_flows, Cond.code yX8_flows cX8_flows 16 (some .int), Cond.fieldLink RX8 7 "TankChainModel" "catches" "[I", Cond.methodLink RX8 115 Lib.Math.max.name, Cond.static Lib.Math.max.name, Cond.initialized "java/lang/Math", Cond.code Lib.Math.max.name Lib.Math.max.code 2 (some .int), Cond.fieldLink RX8 16 "TankChainModel" "bank" "[I", Cond.fieldLink RX8 139 "TankChainModel" "fields" "I", Cond.fieldLink RX8 41 "TankChainModel" "fieldTank" "[I", Cond.fieldLink RX8 94 "TankChainModel" "got" "[I", Cond.fieldLink RX8 47 "TankChainModel" "area" "[I", Cond.fieldLink RX8 28 "TankChainModel" "taken" "[I", Cond.fieldLink RX8 31 "TankChainModel" "spilt" "[I", Cond.fieldLink RX8 217 "TankChainModel" "seeped" "I", Cond.fieldLink RX8 220 "TankChainModel" "kept" "I", Cond.fieldLink RX8 223 "TankChainModel" "rained" "I", Cond.fieldLink RX8 59 "TankChainModel" "lastGot" "[I", Cond.fieldLink RX8 56 "TankChainModel" "allGot" "[I"]
def wsX8_lost_r3 : List Cond := [Cond.fieldLink RX8 53 "TankChainModel" "daysFed" "[I", Cond.fieldLink RX8 65 "TankChainModel" "owners" "[I", Cond.fieldLink RX8 50 "TankChainModel" "owner" "[I", Cond.fieldLink RX8 34 "TankChainModel" "breachedOn" "[I", Cond.fieldLink RX8 129 "TankChainModel" "day" "I", Cond.fieldLink RX8 68 "TankChainModel" "firstBreach" "I", Cond.fieldLink RX8 72 "TankChainModel" "breaches" "I", Cond.fieldLink RX8 75 "TankChainModel" "breachDay" "I", Cond.fieldLink RX8 226 "TankChainModel" "out" "I", Cond.methodLink RX8 213 yX8_gives, Cond.instanceMethod yX8_gives, Cond.selects RX8 yX8_gives yX8_gives, Cond.code yX8_gives cX8_gives 11 (some .int), Cond.fieldLink RX8 13 "TankChainModel" "size" "[I", Cond.methodLink RX8 109 Lib.Math.min.name, Cond.static Lib.Math.min.name, Cond.code Lib.Math.min.name Lib.Math.min.code 2 (some .int), Cond.fieldLink RX8 91 "TankChainModel" "row" "[I", Cond.fieldLink RX8 97 "TankChainModel" "hasMore" "[Z", Cond.fieldLink RX8 44 "TankChainModel" "far" "[I", Cond.methodLink RX8 195 yX8_custom, Cond.instanceMethod yX8_custom, Cond.selects RX8 yX8_custom yX8_custom, Cond.code yX8_custom cX8_custom 3 (some .int)]
def wsX8_lost_r4 : List Cond := [Cond.fieldLink RX8 142 "TankChainModel" "hasCustom" "Z", Cond.fieldLink RX8 88 "TankChainModel" "told" "[I", Cond.methodLink RX8 206 yX8_ordered, Cond.instanceMethod yX8_ordered, Cond.selects RX8 yX8_ordered yX8_ordered, Cond.code yX8_ordered cX8_ordered 5 (some .int), Cond.methodLink RX8 202 yX8_isAhead, Cond.instanceMethod yX8_isAhead, Cond.selects RX8 yX8_isAhead yX8_isAhead, Cond.code yX8_isAhead cX8_isAhead 5 (some .boolean), Cond.fieldLink RX8 62 "TankChainModel" "isTemple" "[Z", Cond.methodLink RX8 198 yX8_one, Cond.static yX8_one, Cond.code yX8_one cX8_one 1 (some .int), Cond.methodLink RX8 210 yX8_isBad, Cond.instanceMethod yX8_isBad, Cond.selects RX8 yX8_isBad yX8_isBad, Cond.code yX8_isBad cX8_isBad 3 (some .boolean), Cond.methodLink RX8 132 yX8_room, Cond.instanceMethod yX8_room, Cond.selects RX8 yX8_room yX8_room, Cond.code yX8_room cX8_room 3 (some .int), Cond.fieldLink RX8 25 "TankChainModel" "silt" "[I"]
def wsX8_lost : List Cond := .code yX8_lost cX8_lost 6 (some .int) :: ((wsX8_lost_r1 ++ (wsX8_lost_r2 ++ (wsX8_lost_r3 ++ wsX8_lost_r4))) ++ wsX80)
def wsX8_most_r1 : List Cond := [Cond.fieldLink RX8 118 "TankChainModel" "tanks" "I", Cond.fieldLink RX8 103 "TankChainModel" "triedOpening" "[I", Cond.methodLink RX8 121 yX8_isIn, Cond.static yX8_isIn, Cond.initialized RX8, Cond.code yX8_isIn cX8_isIn 3 (some .boolean), Cond.methodLink RX8 236 yX8_isTrial, Cond.static yX8_isTrial, Cond.code yX8_isTrial cX8_isTrial 2 (some .boolean), Cond.methodLink RX8 239 yX8_openings, Cond.instanceMethod yX8_openings, Cond.selects RX8 yX8_openings yX8_openings, Cond.code yX8_openings cX8_openings 2 none, Cond.fieldLink RX8 22 "TankChainModel" "opening" "[I", Cond.methodLink RX8 242 yX8_tries, Cond.instanceMethod yX8_tries, Cond.selects RX8 yX8_tries yX8_tries, Cond.code yX8_tries cX8_tries 5 (some .int), Cond.fieldLink RX8 100 "TankChainModel" "triedWater" "[I", Cond.fieldLink RX8 19 "TankChainModel" "water" "[I", Cond.fieldLink RX8 106 "TankChainModel" "triedBreach" "[Z", Cond.fieldLink RX8 37 "TankChainModel" "isBreached" "[Z", Cond.methodLink RX8 232 yX8_flows, Cond.instanceMethod yX8_flows]
def wsX8_most_r2 : List Cond := [Cond.selects RX8 yX8_flows yX8_flows, Cond.code yX8_flows cX8_flows 16 (some .int), Cond.fieldLink RX8 7 "TankChainModel" "catches" "[I", Cond.methodLink RX8 115 Lib.Math.max.name, Cond.static Lib.Math.max.name, Cond.initialized "java/lang/Math", Cond.code Lib.Math.max.name Lib.Math.max.code 2 (some .int), Cond.fieldLink RX8 16 "TankChainModel" "bank" "[I", Cond.fieldLink RX8 139 "TankChainModel" "fields" "I", Cond.fieldLink RX8 41 "TankChainModel" "fieldTank" "[I", Cond.fieldLink RX8 94 "TankChainModel" "got" "[I", Cond.fieldLink RX8 47 "TankChainModel" "area" "[I", Cond.fieldLink RX8 28 "TankChainModel" "taken" "[I", Cond.fieldLink RX8 31 "TankChainModel" "spilt" "[I", Cond.fieldLink RX8 217 "TankChainModel" "seeped" "I", Cond.fieldLink RX8 220 "TankChainModel" "kept" "I", Cond.fieldLink RX8 223 "TankChainModel" "rained" "I", Cond.fieldLink RX8 59 "TankChainModel" "lastGot" "[I", Cond.fieldLink RX8 56 "TankChainModel" "allGot" "[I", Cond.fieldLink RX8 53 "TankChainModel" "daysFed" "[I", Cond.fieldLink RX8 65 "TankChainModel" "owners" "[I", Cond.fieldLink RX8 50 "TankChainModel" "owner" "[I", Cond.fieldLink RX8 34 "TankChainModel" "breachedOn" "[I", Cond.fieldLink RX8 129 "TankChainModel" "day" "I"]
def wsX8_most_r3 : List Cond := [Cond.fieldLink RX8 68 "TankChainModel" "firstBreach" "I", Cond.fieldLink RX8 72 "TankChainModel" "breaches" "I", Cond.fieldLink RX8 75 "TankChainModel" "breachDay" "I", Cond.fieldLink RX8 226 "TankChainModel" "out" "I", Cond.methodLink RX8 213 yX8_gives, Cond.instanceMethod yX8_gives, Cond.selects RX8 yX8_gives yX8_gives, Cond.code yX8_gives cX8_gives 11 (some .int), Cond.fieldLink RX8 13 "TankChainModel" "size" "[I", Cond.methodLink RX8 109 Lib.Math.min.name, Cond.static Lib.Math.min.name, Cond.code Lib.Math.min.name Lib.Math.min.code 2 (some .int), Cond.fieldLink RX8 91 "TankChainModel" "row" "[I", Cond.fieldLink RX8 97 "TankChainModel" "hasMore" "[Z", Cond.fieldLink RX8 44 "TankChainModel" "far" "[I", Cond.methodLink RX8 195 yX8_custom, Cond.instanceMethod yX8_custom, Cond.selects RX8 yX8_custom yX8_custom, Cond.code yX8_custom cX8_custom 3 (some .int), Cond.fieldLink RX8 142 "TankChainModel" "hasCustom" "Z", Cond.fieldLink RX8 88 "TankChainModel" "told" "[I", Cond.methodLink RX8 206 yX8_ordered, Cond.instanceMethod yX8_ordered, Cond.selects RX8 yX8_ordered yX8_ordered]
def wsX8_most_r4 : List Cond := [Cond.code yX8_ordered cX8_ordered 5 (some .int), Cond.methodLink RX8 202 yX8_isAhead, Cond.instanceMethod yX8_isAhead, Cond.selects RX8 yX8_isAhead yX8_isAhead, Cond.code yX8_isAhead cX8_isAhead 5 (some .boolean), Cond.fieldLink RX8 62 "TankChainModel" "isTemple" "[Z", Cond.methodLink RX8 198 yX8_one, Cond.static yX8_one, Cond.code yX8_one cX8_one 1 (some .int), Cond.methodLink RX8 210 yX8_isBad, Cond.instanceMethod yX8_isBad, Cond.selects RX8 yX8_isBad yX8_isBad, Cond.code yX8_isBad cX8_isBad 3 (some .boolean), Cond.methodLink RX8 132 yX8_room, Cond.instanceMethod yX8_room, Cond.selects RX8 yX8_room yX8_room, Cond.code yX8_room cX8_room 3 (some .int), Cond.fieldLink RX8 25 "TankChainModel" "silt" "[I"]
def wsX8_most : List Cond := .code yX8_most cX8_most 12 (some .int) :: ((wsX8_most_r1 ++ (wsX8_most_r2 ++ (wsX8_most_r3 ++ wsX8_most_r4))) ++ wsX80)
def wsX8_breach : List Cond := .code yX8_breach cX8_breach 2 (some .int) :: ([.fieldLink RX8 68 "TankChainModel" "firstBreach" "I", .fieldLink RX8 72 "TankChainModel" "breaches" "I", .fieldLink RX8 75 "TankChainModel" "breachDay" "I"] ++ wsX80)
def wsX8_count : List Cond := .code yX8_count cX8_count 4 (some .int) :: ([.fieldLink RX8 129 "TankChainModel" "day" "I", .fieldLink RX8 118 "TankChainModel" "tanks" "I", .fieldLink RX8 139 "TankChainModel" "fields" "I", .fieldLink RX8 19 "TankChainModel" "water" "[I", .fieldLink RX8 226 "TankChainModel" "out" "I", .fieldLink RX8 217 "TankChainModel" "seeped" "I", .fieldLink RX8 220 "TankChainModel" "kept" "I", .fieldLink RX8 223 "TankChainModel" "rained" "I", .fieldLink RX8 146 "TankChainModel" "taped" "I", .fieldLink RX8 136 "TankChainModel" "toldMore" "I"] ++ wsX80)
def wsJ9_max_7cf53 : List Cond := .code yJ9_max_7cf53 cJ9_max_7cf53 2 (some .int) :: ([])
def wsJ9_min_7cf53 : List Cond := .code yJ9_min_7cf53 cJ9_min_7cf53 2 (some .int) :: ([])
def wsL_cell : List Cond := .code yL_cell cL_cell 2 (some .int) :: ([])
def wsL_law_r1 : List Cond := [Cond.classLink RL 7 RX7, Cond.instantiable RX7 15, Cond.initialized RX7, Cond.classLink RL 18 RX8, Cond.instantiable RX8 47, Cond.initialized RX8, Cond.methodLink RL 9 yL_cell, Cond.static yL_cell, Cond.initialized RL, Cond.code yL_cell cL_cell 2 (some .int), Cond.methodLink RL 15 yX7_init, Cond.instanceMethod yX7_init, Cond.code yX7_init cX7_init 5 none, Cond.methodLink RX7 1 objectInit, Cond.instanceMethod objectInit, Cond.code objectInit ⟨#[0xb1]⟩ 1 none, Cond.classLink RX7 9 RX1, Cond.fieldLink RX7 11 "TankChain" "fields" "[LTankChain$Field;", Cond.classLink RX7 15 RX6, Cond.instantiable RX6 6, Cond.initialized RX6, Cond.fieldLink RX7 18 "TankChain" "tape" "LTankChain$Tape;", Cond.classLink RX7 22 RX0, Cond.instantiable RX0 6]
def wsL_law_r2 : List Cond := [Cond.initialized RX0, Cond.fieldLink RX7 25 "TankChain" "inForce" "LTankChain$Custom;", Cond.fieldLink RX7 29 "TankChain" "draft" "LTankChain$Custom;", Cond.classLink RX7 32 RX4, Cond.instantiable RX4 4, Cond.initialized RX4, Cond.fieldLink RX7 35 "TankChain" "ever" "LTankChain$Sums;", Cond.fieldLink RX7 39 "TankChain" "fieldsThere" "I", Cond.fieldLink RX7 43 "TankChain" "daysGone" "I", Cond.fieldLink RX7 46 "TankChain" "lastRain" "I", Cond.fieldLink RX7 49 "TankChain" "waterTold" "I", Cond.fieldLink RX7 52 "TankChain" "faultPlace" "I", Cond.fieldLink RX7 55 "TankChain" "breachDay" "I", Cond.fieldLink RX7 58 "TankChain" "breachFirst" "I", Cond.fieldLink RX7 61 "TankChain" "breachTanks" "I", Cond.methodLink RX7 64 Lib.Math.min.name, Cond.static Lib.Math.min.name, Cond.initialized "java/lang/Math", Cond.code Lib.Math.min.name Lib.Math.min.code 2 (some .int), Cond.methodLink RX7 70 Lib.Math.max.name, Cond.static Lib.Math.max.name, Cond.code Lib.Math.max.name Lib.Math.max.code 2 (some .int), Cond.classLink RX7 73 RX5, Cond.fieldLink RX7 75 "TankChain" "tanks" "[LTankChain$Tank;"]
def wsL_law_r3 : List Cond := [Cond.instantiable RX5 10, Cond.initialized RX5, Cond.classLink RX7 82 RX2, Cond.instantiable RX2 4, Cond.initialized RX2, Cond.fieldLink RX7 87 "TankChain" "flow" "LTankChain$Flow;", Cond.instanceMethod yX6_init, Cond.code yX6_init cX6_init 1 none, Cond.methodLink RX6 3 objectInit, Cond.arrayClass .byte, Cond.fieldLink RX6 9 "TankChain$Tape" "bytes" "[B", Cond.fieldLink RX6 15 "TankChain$Tape" "held" "I", Cond.fieldLink RX6 19 "TankChain$Tape" "length" "I", Cond.fieldLink RX6 22 "TankChain$Tape" "kind" "I", Cond.fieldLink RX6 25 "TankChain$Tape" "begin" "I", Cond.fieldLink RX6 28 "TankChain$Tape" "end" "I", Cond.instanceMethod yX0_init, Cond.code yX0_init cX0_init 1 none, Cond.methodLink RX0 3 objectInit, Cond.arrayClass .int, Cond.fieldLink RX0 9 "TankChain$Custom" "firsts" "[I", Cond.fieldLink RX0 15 "TankChain$Custom" "firstsThere" "I", Cond.fieldLink RX0 19 "TankChain$Custom" "near" "I", Cond.fieldLink RX0 22 "TankChain$Custom" "hold" "I"]
def wsL_law_r4 : List Cond := [Cond.fieldLink RX0 25 "TankChain$Custom" "fair" "Z", Cond.fieldLink RX0 29 "TankChain$Custom" "statements" "I", Cond.instanceMethod yX4_init, Cond.code yX4_init cX4_init 1 none, Cond.methodLink RX4 1 objectInit, Cond.fieldLink RX4 7 "TankChain$Sums" "rained" "I", Cond.fieldLink RX4 13 "TankChain$Sums" "seeped" "I", Cond.fieldLink RX4 16 "TankChain$Sums" "kept" "I", Cond.fieldLink RX4 19 "TankChain$Sums" "out" "I", Cond.methodLink RX7 79 yX5_init, Cond.instanceMethod yX5_init, Cond.code yX5_init cX5_init 3 none, Cond.methodLink RX5 3 objectInit, Cond.classLink RX5 9 RX3, Cond.instantiable RX3 5, Cond.initialized RX3, Cond.fieldLink RX5 12 "TankChain$Tank" "now" "LTankChain$Pool;", Cond.fieldLink RX5 18 "TankChain$Tank" "after" "LTankChain$Pool;", Cond.fieldLink RX5 21 "TankChain$Tank" "catches" "I", Cond.fieldLink RX5 25 "TankChain$Tank" "size" "I", Cond.fieldLink RX5 28 "TankChain$Tank" "bank" "I", Cond.fieldLink RX5 31 "TankChain$Tank" "silt" "I", Cond.fieldLink RX5 34 "TankChain$Tank" "breachedOn" "I", Cond.fieldLink RX5 37 "TankChain$Tank" "firstField" "LTankChain$Field;"]
def wsL_law_r5 : List Cond := [Cond.fieldLink RX5 41 "TankChain$Tank" "number" "I", Cond.fieldLink RX5 44 "TankChain$Tank" "below" "LTankChain$Tank;", Cond.instanceMethod yX3_init, Cond.code yX3_init cX3_init 1 none, Cond.methodLink RX3 1 objectInit, Cond.fieldLink RX3 7 "TankChain$Pool" "water" "I", Cond.fieldLink RX3 13 "TankChain$Pool" "opening" "I", Cond.fieldLink RX3 16 "TankChain$Pool" "breached" "Z", Cond.fieldLink RX3 20 "TankChain$Pool" "taken" "I", Cond.fieldLink RX3 23 "TankChain$Pool" "spilt" "I", Cond.methodLink RX7 84 yX2_init, Cond.instanceMethod yX2_init, Cond.code yX2_init cX2_init 3 none, Cond.methodLink RX2 3 objectInit, Cond.classLink RX2 9 RX4, Cond.fieldLink RX2 12 "TankChain$Flow" "sums" "LTankChain$Sums;", Cond.fieldLink RX2 18 "TankChain$Flow" "areasFed" "I", Cond.fieldLink RX2 22 "TankChain$Flow" "head" "LTankChain$Tank;", Cond.fieldLink RX2 26 "TankChain$Flow" "custom" "LTankChain$Custom;", Cond.methodLink RL 20 yX8_init, Cond.instanceMethod yX8_init, Cond.code yX8_init cX8_init 3 none, Cond.methodLink RX8 1 objectInit, Cond.fieldLink RX8 7 "TankChainModel" "catches" "[I"]
def wsL_law_r6 : List Cond := [Cond.fieldLink RX8 13 "TankChainModel" "size" "[I", Cond.fieldLink RX8 16 "TankChainModel" "bank" "[I", Cond.fieldLink RX8 19 "TankChainModel" "water" "[I", Cond.fieldLink RX8 22 "TankChainModel" "opening" "[I", Cond.fieldLink RX8 25 "TankChainModel" "silt" "[I", Cond.fieldLink RX8 28 "TankChainModel" "taken" "[I", Cond.fieldLink RX8 31 "TankChainModel" "spilt" "[I", Cond.fieldLink RX8 34 "TankChainModel" "breachedOn" "[I", Cond.arrayClass .boolean, Cond.fieldLink RX8 37 "TankChainModel" "isBreached" "[Z", Cond.fieldLink RX8 41 "TankChainModel" "fieldTank" "[I", Cond.fieldLink RX8 44 "TankChainModel" "far" "[I", Cond.fieldLink RX8 47 "TankChainModel" "area" "[I", Cond.fieldLink RX8 50 "TankChainModel" "owner" "[I", Cond.fieldLink RX8 53 "TankChainModel" "daysFed" "[I", Cond.fieldLink RX8 56 "TankChainModel" "allGot" "[I", Cond.fieldLink RX8 59 "TankChainModel" "lastGot" "[I", Cond.fieldLink RX8 62 "TankChainModel" "isTemple" "[Z", Cond.fieldLink RX8 65 "TankChainModel" "owners" "[I", Cond.fieldLink RX8 68 "TankChainModel" "firstBreach" "I", Cond.fieldLink RX8 72 "TankChainModel" "breaches" "I", Cond.fieldLink RX8 75 "TankChainModel" "breachDay" "I", Cond.fieldLink RX8 78 "TankChainModel" "tape" "[B", Cond.fieldLink RX8 82 "TankChainModel" "text" "[B"]
def wsL_law_r7 : List Cond := [Cond.fieldLink RX8 85 "TankChainModel" "fault" "I", Cond.fieldLink RX8 88 "TankChainModel" "told" "[I", Cond.fieldLink RX8 91 "TankChainModel" "row" "[I", Cond.fieldLink RX8 94 "TankChainModel" "got" "[I", Cond.fieldLink RX8 97 "TankChainModel" "hasMore" "[Z", Cond.fieldLink RX8 100 "TankChainModel" "triedWater" "[I", Cond.fieldLink RX8 103 "TankChainModel" "triedOpening" "[I", Cond.fieldLink RX8 106 "TankChainModel" "triedBreach" "[Z", Cond.methodLink RX8 109 Lib.Math.min.name, Cond.methodLink RX8 115 Lib.Math.max.name, Cond.fieldLink RX8 118 "TankChainModel" "tanks" "I", Cond.methodLink RL 21 yX7_tank, Cond.instanceMethod yX7_tank, Cond.selects RX7 yX7_tank yX7_tank, Cond.code yX7_tank cX7_tank 7 (some .boolean), Cond.fieldLink RX7 99 "TankChain$Tank" "catches" "I", Cond.fieldLink RX7 102 "TankChain$Tank" "size" "I", Cond.fieldLink RX7 105 "TankChain$Tank" "bank" "I", Cond.methodLink RX7 91 yX7_tankAt, Cond.instanceMethod yX7_tankAt, Cond.selects RX7 yX7_tankAt yX7_tankAt, Cond.code yX7_tankAt cX7_tankAt 2 (some (.object "TankChain$Tank")), Cond.methodLink RX7 95 yX7_isWithin, Cond.static yX7_isWithin]
def wsL_law_r8 : List Cond := [Cond.code yX7_isWithin cX7_isWithin 3 (some .boolean), Cond.methodLink RL 25 yX8_tank, Cond.instanceMethod yX8_tank, Cond.selects RX8 yX8_tank yX8_tank, Cond.code yX8_tank cX8_tank 5 (some .boolean), Cond.fieldLink RX8 129 "TankChainModel" "day" "I", Cond.methodLink RX8 125 yX8_isTank, Cond.instanceMethod yX8_isTank, Cond.selects RX8 yX8_isTank yX8_isTank, Cond.code yX8_isTank cX8_isTank 2 (some .boolean), Cond.methodLink RX8 121 yX8_isIn, Cond.static yX8_isIn, Cond.code yX8_isIn cX8_isIn 3 (some .boolean), Cond.methodLink RL 26 yX7_water, Cond.instanceMethod yX7_water, Cond.selects RX7 yX7_water yX7_water, Cond.code yX7_water cX7_water 4 (some .boolean), Cond.fieldLink RX7 108 "TankChain$Tank" "now" "LTankChain$Pool;", Cond.fieldLink RX7 112 "TankChain$Pool" "breached" "Z", Cond.fieldLink RX7 122 "TankChain$Pool" "water" "I", Cond.methodLink RX7 118 yX5_roomIf, Cond.instanceMethod yX5_roomIf, Cond.selects RX5 yX5_roomIf yX5_roomIf, Cond.code yX5_roomIf cX5_roomIf 2 (some .int)]
def wsL_law_r9 : List Cond := [Cond.methodLink RL 30 yX8_water, Cond.instanceMethod yX8_water, Cond.selects RX8 yX8_water yX8_water, Cond.code yX8_water cX8_water 3 (some .boolean), Cond.fieldLink RX8 136 "TankChainModel" "toldMore" "I", Cond.methodLink RX8 132 yX8_room, Cond.instanceMethod yX8_room, Cond.selects RX8 yX8_room yX8_room, Cond.code yX8_room cX8_room 3 (some .int), Cond.methodLink RL 31 yX7_field, Cond.instanceMethod yX7_field, Cond.selects RX7 yX7_field yX7_field, Cond.code yX7_field cX7_field 10 (some .int), Cond.instantiable RX1 12, Cond.initialized RX1, Cond.methodLink RX7 125 yX1_init, Cond.instanceMethod yX1_init, Cond.code yX1_init cX1_init 7 none, Cond.methodLink RX1 1 objectInit, Cond.fieldLink RX1 7 "TankChain$Field" "next" "LTankChain$Field;", Cond.fieldLink RX1 13 "TankChain$Field" "share" "I", Cond.fieldLink RX1 17 "TankChain$Field" "remainder" "I", Cond.fieldLink RX1 20 "TankChain$Field" "daysFed" "I", Cond.fieldLink RX1 23 "TankChain$Field" "gotEver" "I"]
def wsL_law_r10 : List Cond := [Cond.fieldLink RX1 26 "TankChain$Field" "gotLately" "I", Cond.fieldLink RX1 29 "TankChain$Field" "number" "I", Cond.fieldLink RX1 32 "TankChain$Field" "tank" "I", Cond.fieldLink RX1 35 "TankChain$Field" "far" "I", Cond.fieldLink RX1 38 "TankChain$Field" "area" "I", Cond.fieldLink RX1 41 "TankChain$Field" "owner" "I", Cond.fieldLink RX1 44 "TankChain$Field" "temple" "Z", Cond.methodLink RX7 128 yX5_putInOrder, Cond.instanceMethod yX5_putInOrder, Cond.selects RX5 yX5_putInOrder yX5_putInOrder, Cond.code yX5_putInOrder cX5_putInOrder 5 none, Cond.fieldLink RX5 54 "TankChain$Field" "next" "LTankChain$Field;", Cond.methodLink RX5 48 yX0_isAhead, Cond.instanceMethod yX0_isAhead, Cond.selects RX0 yX0_isAhead yX0_isAhead, Cond.code yX0_isAhead cX0_isAhead 5 (some .boolean), Cond.fieldLink RX0 43 "TankChain$Field" "number" "I", Cond.methodLink RX0 39 yX0_rank, Cond.static yX0_rank, Cond.code yX0_rank cX0_rank 2 (some .int), Cond.fieldLink RX0 48 "TankChain$Field" "temple" "Z", Cond.fieldLink RX0 51 "TankChain$Field" "area" "I", Cond.fieldLink RX0 54 "TankChain$Field" "far" "I", Cond.methodLink RL 35 yX8_field]
def wsL_law_r11 : List Cond := [Cond.instanceMethod yX8_field, Cond.selects RX8 yX8_field yX8_field, Cond.code yX8_field cX8_field 6 (some .int), Cond.fieldLink RX8 139 "TankChainModel" "fields" "I", Cond.methodLink RL 36 yX7_open, Cond.instanceMethod yX7_open, Cond.selects RX7 yX7_open yX7_open, Cond.code yX7_open cX7_open 4 (some .boolean), Cond.fieldLink RX7 132 "TankChain$Pool" "opening" "I", Cond.methodLink RL 39 yX8_open, Cond.instanceMethod yX8_open, Cond.selects RX8 yX8_open yX8_open, Cond.code yX8_open cX8_open 3 (some .boolean), Cond.methodLink RL 40 yX7_mend, Cond.instanceMethod yX7_mend, Cond.selects RX7 yX7_mend yX7_mend, Cond.code yX7_mend cX7_mend 4 (some .boolean), Cond.methodLink RL 43 yX8_mend, Cond.instanceMethod yX8_mend, Cond.selects RX8 yX8_mend yX8_mend, Cond.code yX8_mend cX8_mend 3 (some .boolean), Cond.methodLink RL 44 yX7_dredge, Cond.instanceMethod yX7_dredge, Cond.selects RX7 yX7_dredge yX7_dredge]
def wsL_law_r12 : List Cond := [Cond.code yX7_dredge cX7_dredge 4 (some .int), Cond.fieldLink RX7 135 "TankChain$Tank" "silt" "I", Cond.methodLink RL 48 yX8_dredge, Cond.instanceMethod yX8_dredge, Cond.selects RX8 yX8_dredge yX8_dredge, Cond.code yX8_dredge cX8_dredge 3 (some .int), Cond.methodLink RL 49 yX7_feed, Cond.instanceMethod yX7_feed, Cond.selects RX7 yX7_feed yX7_feed, Cond.code yX7_feed cX7_feed 6 (some .int), Cond.fieldLink RX7 138 "TankChain$Tape" "held" "I", Cond.methodLink RX7 141 yX6_putFour, Cond.instanceMethod yX6_putFour, Cond.selects RX6 yX6_putFour yX6_putFour, Cond.code yX6_putFour cX6_putFour 2 none, Cond.methodLink RX6 31 yX6_putByte, Cond.instanceMethod yX6_putByte, Cond.selects RX6 yX6_putByte yX6_putByte, Cond.code yX6_putByte cX6_putByte 2 none, Cond.methodLink RL 53 yX8_feed, Cond.instanceMethod yX8_feed, Cond.selects RX8 yX8_feed yX8_feed, Cond.code yX8_feed cX8_feed 6 (some .int), Cond.fieldLink RX8 146 "TankChainModel" "taped" "I"]
def wsL_law_r13 : List Cond := [Cond.methodLink RX8 149 yX8_four, Cond.instanceMethod yX8_four, Cond.selects RX8 yX8_four yX8_four, Cond.code yX8_four cX8_four 3 none, Cond.methodLink RL 54 yX7_custom, Cond.instanceMethod yX7_custom, Cond.selects RX7 yX7_custom yX7_custom, Cond.code yX7_custom cX7_custom 2 (some .int), Cond.fieldLink RX7 156 "TankChain$Custom" "statements" "I", Cond.methodLink RX7 145 yX6_faultReading, Cond.instanceMethod yX6_faultReading, Cond.selects RX6 yX6_faultReading yX6_faultReading, Cond.code yX6_faultReading cX6_faultReading 3 (some .int), Cond.fieldLink RX6 43 "TankChain$Custom" "statements" "I", Cond.methodLink RX6 35 yX0_clear, Cond.instanceMethod yX0_clear, Cond.selects RX0 yX0_clear yX0_clear, Cond.code yX0_clear cX0_clear 1 none, Cond.methodLink RX6 40 yX6_nextToken, Cond.instanceMethod yX6_nextToken, Cond.selects RX6 yX6_nextToken yX6_nextToken, Cond.code yX6_nextToken cX6_nextToken 1 none, Cond.methodLink RX6 87 yX6_byteAt, Cond.instanceMethod yX6_byteAt]
def wsL_law_r14 : List Cond := [Cond.selects RX6 yX6_byteAt yX6_byteAt, Cond.code yX6_byteAt cX6_byteAt 2 (some .int), Cond.methodLink RX6 95 yX6_isBlank, Cond.static yX6_isBlank, Cond.code yX6_isBlank cX6_isBlank 1 (some .boolean), Cond.methodLink RX6 99 yX6_isLetter, Cond.static yX6_isLetter, Cond.code yX6_isLetter cX6_isLetter 1 (some .boolean), Cond.methodLink RX6 102 yX6_isDigit, Cond.static yX6_isDigit, Cond.code yX6_isDigit cX6_isDigit 1 (some .boolean), Cond.methodLink RX6 46 yX6_readStatement, Cond.instanceMethod yX6_readStatement, Cond.selects RX6 yX6_readStatement yX6_readStatement, Cond.code yX6_readStatement cX6_readStatement 3 (some .boolean), Cond.fieldLink RX6 65 "TankChain$Custom" "near" "I", Cond.fieldLink RX6 69 "TankChain$Custom" "hold" "I", Cond.fieldLink RX6 73 "TankChain$Custom" "fair" "Z", Cond.methodLink RX6 52 yX6_isWord, Cond.instanceMethod yX6_isWord, Cond.selects RX6 yX6_isWord yX6_isWord, Cond.code yX6_isWord cX6_isWord 3 (some .boolean), Cond.methodLink RX6 83 yJ0_length_8abf5, Cond.instanceMethod yJ0_length_8abf5]
def wsL_law_r15 : List Cond := [Cond.selects RJ0 yJ0_length_8abf5 yJ0_length_8abf5, Cond.initialized RJ0, Cond.code yJ0_length_8abf5 cJ0_length_8abf5 1 (some .int), Cond.fieldLink RJ0 9 "java/lang/String" "value" "[B", Cond.methodLink RJ0 335 yJ0_coder_7d493, Cond.instanceMethod yJ0_coder_7d493, Cond.selects RJ0 yJ0_coder_7d493 yJ0_coder_7d493, Cond.code yJ0_coder_7d493 cJ0_coder_7d493 1 (some .byte), Cond.fieldLink RJ0 38 "java/lang/String" "COMPACT_STRINGS" "Z", Cond.fieldLink RJ0 15 "java/lang/String" "coder" "B", Cond.methodLink RX6 91 yJ0_charAt_5068e, Cond.instanceMethod yJ0_charAt_5068e, Cond.selects RJ0 yJ0_charAt_5068e yJ0_charAt_5068e, Cond.code yJ0_charAt_5068e cJ0_charAt_5068e 2 (some .char), Cond.methodLink RJ0 492 yJ0_isLatin1_aae02, Cond.instanceMethod yJ0_isLatin1_aae02, Cond.selects RJ0 yJ0_isLatin1_aae02 yJ0_isLatin1_aae02, Cond.code yJ0_isLatin1_aae02 cJ0_isLatin1_aae02 1 (some .boolean), Cond.methodLink RJ0 495 yJ1_charAt_3b067, Cond.static yJ1_charAt_3b067, Cond.initialized RJ1, Cond.code yJ1_charAt_3b067 cJ1_charAt_3b067 2 (some .char), Cond.methodLink RJ1 9 yJ0_checkIndex_df160, Cond.static yJ0_checkIndex_df160]
def wsL_law_r16 : List Cond := [Cond.code yJ0_checkIndex_df160 cJ0_checkIndex_df160 2 none, Cond.fieldLink RJ0 1053 "jdk/internal/util/Preconditions" "SIOOBE_FORMATTER" "Ljava/util/function/BiFunction;", Cond.methodLink RJ0 1059 yJ3_checkIndex_8e157, Cond.static yJ3_checkIndex_8e157, Cond.initialized RJ3, Cond.code yJ3_checkIndex_8e157 cJ3_checkIndex_8e157 3 (some .int), Cond.methodLink RJ0 498 yJ2_charAt_3b067, Cond.static yJ2_charAt_3b067, Cond.initialized RJ2, Cond.code yJ2_charAt_3b067 cJ2_charAt_3b067 2 (some .char), Cond.methodLink RJ2 67 yJ2_checkIndex_2214a, Cond.static yJ2_checkIndex_2214a, Cond.code yJ2_checkIndex_2214a cJ2_checkIndex_2214a 2 none, Cond.methodLink RJ2 48 yJ2_length_9d52b, Cond.static yJ2_length_9d52b, Cond.code yJ2_length_9d52b cJ2_length_9d52b 1 (some .int), Cond.methodLink RJ2 414 yJ0_checkIndex_df160, Cond.methodLink RJ2 71 yJ2_getChar_3b067, Cond.static yJ2_getChar_3b067, Cond.code yJ2_getChar_3b067 cJ2_getChar_3b067 2 (some .char), Cond.fieldLink RJ2 44 "java/lang/StringUTF16" "$assertionsDisabled" "Z", Cond.fieldLink RJ2 59 "java/lang/StringUTF16" "HI_BYTE_SHIFT" "I", Cond.fieldLink RJ2 63 "java/lang/StringUTF16" "LO_BYTE_SHIFT" "I", Cond.methodLink RX6 56 yX6_readFirst]
def wsL_law_r17 : List Cond := [Cond.instanceMethod yX6_readFirst, Cond.selects RX6 yX6_readFirst yX6_readFirst, Cond.code yX6_readFirst cX6_readFirst 2 (some .boolean), Cond.methodLink RX6 78 yX0_addFirst, Cond.instanceMethod yX0_addFirst, Cond.selects RX0 yX0_addFirst yX0_addFirst, Cond.code yX0_addFirst cX0_addFirst 2 none, Cond.methodLink RX6 61 yX6_numberHere, Cond.instanceMethod yX6_numberHere, Cond.selects RX6 yX6_numberHere yX6_numberHere, Cond.code yX6_numberHere cX6_numberHere 3 (some .int), Cond.methodLink RX7 149 yX0_becomeAs, Cond.instanceMethod yX0_becomeAs, Cond.selects RX0 yX0_becomeAs yX0_becomeAs, Cond.code yX0_becomeAs cX0_becomeAs 3 none, Cond.methodLink RX0 32 yX0_clear, Cond.methodLink RX0 35 yX0_addFirst, Cond.methodLink RX7 153 yX7_orderAnew, Cond.instanceMethod yX7_orderAnew, Cond.selects RX7 yX7_orderAnew yX7_orderAnew, Cond.code yX7_orderAnew cX7_orderAnew 4 none, Cond.fieldLink RX7 267 "TankChain$Flow" "head" "LTankChain$Tank;", Cond.fieldLink RX7 225 "TankChain$Tank" "firstField" "LTankChain$Field;", Cond.fieldLink RX7 271 "TankChain$Tank" "below" "LTankChain$Tank;"]
def wsL_law_r18 : List Cond := [Cond.fieldLink RX7 201 "TankChain$Field" "tank" "I", Cond.methodLink RX7 197 yX7_fieldAt, Cond.instanceMethod yX7_fieldAt, Cond.selects RX7 yX7_fieldAt yX7_fieldAt, Cond.code yX7_fieldAt cX7_fieldAt 2 (some (.object "TankChain$Field")), Cond.methodLink RL 58 yX8_custom_, Cond.instanceMethod yX8_custom_, Cond.selects RX8 yX8_custom_ yX8_custom_, Cond.code yX8_custom_ cX8_custom_ 5 (some .int), Cond.fieldLink RX8 156 "TankChainModel" "end" "I", Cond.fieldLink RX8 153 "TankChainModel" "place" "I", Cond.fieldLink RX8 142 "TankChainModel" "hasCustom" "Z", Cond.methodLink RX8 159 yX8_blanks, Cond.instanceMethod yX8_blanks, Cond.selects RX8 yX8_blanks yX8_blanks, Cond.code yX8_blanks cX8_blanks 1 none, Cond.methodLink RX8 192 yX8_statement, Cond.instanceMethod yX8_statement, Cond.selects RX8 yX8_statement yX8_statement, Cond.code yX8_statement cX8_statement 2 (some .boolean), Cond.constantLong RX8 172 (439855772532), Cond.constantLong RX8 178 (127978976603237), Cond.constantLong RX8 180 (495756340332), Cond.constantLong RX8 182 (1852137842)]
def wsL_law_r19 : List Cond := [Cond.fieldLink RX8 169 "TankChainModel" "number" "I", Cond.constantLong RX8 188 (1752132708), Cond.constantLong RX8 190 (1717660018), Cond.methodLink RX8 174 yX8_takes, Cond.instanceMethod yX8_takes, Cond.selects RX8 yX8_takes yX8_takes, Cond.code yX8_takes cX8_takes 3 (some .boolean), Cond.fieldLink RX8 162 "TankChainModel" "wordEnd" "I", Cond.methodLink RX8 165 yX8_word, Cond.instanceMethod yX8_word, Cond.selects RX8 yX8_word yX8_word, Cond.code yX8_word cX8_word 3 (some .long), Cond.methodLink RX8 184 yX8_takesNumber, Cond.instanceMethod yX8_takesNumber, Cond.selects RX8 yX8_takesNumber yX8_takesNumber, Cond.code yX8_takesNumber cX8_takesNumber 2 (some .boolean), Cond.methodLink RL 59 yX7_fault, Cond.instanceMethod yX7_fault, Cond.selects RX7 yX7_fault yX7_fault, Cond.code yX7_fault cX7_fault 1 (some .int), Cond.methodLink RL 63 yX8_fault, Cond.instanceMethod yX8_fault, Cond.selects RX8 yX8_fault yX8_fault, Cond.code yX8_fault cX8_fault 1 (some .int)]
def wsL_law_r20 : List Cond := [Cond.methodLink RL 64 yX7_day, Cond.instanceMethod yX7_day, Cond.selects RX7 yX7_day yX7_day, Cond.code yX7_day cX7_day 3 (some .int), Cond.fieldLink RX7 174 "TankChain$Flow" "sums" "LTankChain$Sums;", Cond.methodLink RX7 159 yX7_addSilt, Cond.instanceMethod yX7_addSilt, Cond.selects RX7 yX7_addSilt yX7_addSilt, Cond.code yX7_addSilt cX7_addSilt 2 none, Cond.methodLink RX7 162 yX2_startFromNow, Cond.instanceMethod yX2_startFromNow, Cond.selects RX2 yX2_startFromNow yX2_startFromNow, Cond.code yX2_startFromNow cX2_startFromNow 2 none, Cond.fieldLink RX2 30 "TankChain$Tank" "after" "LTankChain$Pool;", Cond.fieldLink RX2 36 "TankChain$Tank" "now" "LTankChain$Pool;", Cond.fieldLink RX2 45 "TankChain$Tank" "below" "LTankChain$Tank;", Cond.methodLink RX2 39 yX3_becomeAs, Cond.instanceMethod yX3_becomeAs, Cond.selects RX3 yX3_becomeAs yX3_becomeAs, Cond.code yX3_becomeAs cX3_becomeAs 2 none, Cond.methodLink RX7 165 yX2_passDay, Cond.instanceMethod yX2_passDay, Cond.selects RX2 yX2_passDay yX2_passDay, Cond.code yX2_passDay cX2_passDay 4 none]
def wsL_law_r21 : List Cond := [Cond.fieldLink RX2 51 "TankChain$Tank" "catches" "I", Cond.fieldLink RX2 58 "TankChain$Sums" "out" "I", Cond.methodLink RX2 48 yX4_clear, Cond.instanceMethod yX4_clear, Cond.selects RX4 yX4_clear yX4_clear, Cond.code yX4_clear cX4_clear 1 none, Cond.methodLink RX2 54 yX2_sentDown, Cond.instanceMethod yX2_sentDown, Cond.selects RX2 yX2_sentDown yX2_sentDown, Cond.code yX2_sentDown cX2_sentDown 10 (some .int), Cond.fieldLink RX2 61 "TankChain$Pool" "water" "I", Cond.fieldLink RX2 68 "TankChain$Pool" "breached" "Z", Cond.methodLink RX2 76 Lib.Math.max.name, Cond.fieldLink RX2 82 "TankChain$Tank" "bank" "I", Cond.fieldLink RX2 85 "TankChain$Pool" "taken" "I", Cond.fieldLink RX2 88 "TankChain$Pool" "spilt" "I", Cond.fieldLink RX2 91 "TankChain$Sums" "rained" "I", Cond.fieldLink RX2 94 "TankChain$Sums" "seeped" "I", Cond.fieldLink RX2 97 "TankChain$Sums" "kept" "I", Cond.methodLink RX2 64 yX2_takenByFields, Cond.instanceMethod yX2_takenByFields, Cond.selects RX2 yX2_takenByFields yX2_takenByFields, Cond.code yX2_takenByFields cX2_takenByFields 9 (some .int), Cond.fieldLink RX2 100 "TankChain$Tank" "size" "I"]
def wsL_law_r22 : List Cond := [Cond.fieldLink RX2 103 "TankChain$Custom" "hold" "I", Cond.fieldLink RX2 108 "TankChain$Pool" "opening" "I", Cond.methodLink RX2 111 Lib.Math.min.name, Cond.fieldLink RX2 118 "TankChain$Custom" "near" "I", Cond.fieldLink RX2 124 "TankChain$Custom" "fair" "Z", Cond.fieldLink RX2 135 "TankChain$Tank" "firstField" "LTankChain$Field;", Cond.fieldLink RX2 139 "TankChain$Field" "share" "I", Cond.fieldLink RX2 148 "TankChain$Field" "area" "I", Cond.fieldLink RX2 151 "TankChain$Field" "next" "LTankChain$Field;", Cond.methodLink RX2 114 yX5_isBadYearWith, Cond.instanceMethod yX5_isBadYearWith, Cond.selects RX5 yX5_isBadYearWith yX5_isBadYearWith, Cond.code yX5_isBadYearWith cX5_isBadYearWith 2 (some .boolean), Cond.methodLink RX2 121 yX2_areasWithin, Cond.static yX2_areasWithin, Cond.code yX2_areasWithin cX2_areasWithin 4 (some .int), Cond.fieldLink RX2 154 "TankChain$Field" "far" "I", Cond.methodLink RX2 127 yX2_shareFairly, Cond.static yX2_shareFairly, Cond.code yX2_shareFairly cX2_shareFairly 7 none, Cond.fieldLink RX2 157 "TankChain$Field" "remainder" "I", Cond.methodLink RX2 160 yX2_giveOneMore, Cond.static yX2_giveOneMore, Cond.code yX2_giveOneMore cX2_giveOneMore 4 none]
def wsL_law_r23 : List Cond := [Cond.methodLink RX2 131 yX2_shareInOrder, Cond.static yX2_shareInOrder, Cond.code yX2_shareInOrder cX2_shareInOrder 5 none, Cond.methodLink RX2 144 yX1_isFed, Cond.instanceMethod yX1_isFed, Cond.selects RX1 yX1_isFed yX1_isFed, Cond.code yX1_isFed cX1_isFed 1 (some .boolean), Cond.methodLink RX2 72 yX5_roomIf, Cond.methodLink RX7 168 yX7_keepTanks, Cond.instanceMethod yX7_keepTanks, Cond.selects RX7 yX7_keepTanks yX7_keepTanks, Cond.code yX7_keepTanks cX7_keepTanks 4 none, Cond.fieldLink RX7 274 "TankChain$Tank" "after" "LTankChain$Pool;", Cond.fieldLink RX7 190 "TankChain$Tank" "breachedOn" "I", Cond.fieldLink RX7 277 "TankChain$Tank" "number" "I", Cond.methodLink RX7 278 yX3_becomeAs, Cond.methodLink RX7 171 yX7_keepFields, Cond.instanceMethod yX7_keepFields, Cond.selects RX7 yX7_keepFields yX7_keepFields, Cond.code yX7_keepFields cX7_keepFields 3 none, Cond.methodLink RX7 281 yX1_keepShare, Cond.instanceMethod yX1_keepShare, Cond.selects RX1 yX1_keepShare yX1_keepShare, Cond.code yX1_keepShare cX1_keepShare 1 none]
def wsL_law_r24 : List Cond := [Cond.methodLink RX1 48 yX1_isFed, Cond.methodLink RX7 177 yX4_addAll, Cond.instanceMethod yX4_addAll, Cond.selects RX4 yX4_addAll yX4_addAll, Cond.code yX4_addAll cX4_addAll 2 none, Cond.methodLink RL 67 yX8_day, Cond.instanceMethod yX8_day, Cond.selects RX8 yX8_day yX8_day, Cond.code yX8_day cX8_day 3 (some .int), Cond.fieldLink RX8 229 "TankChainModel" "rain" "I", Cond.methodLink RX8 232 yX8_flows, Cond.instanceMethod yX8_flows, Cond.selects RX8 yX8_flows yX8_flows, Cond.code yX8_flows cX8_flows 16 (some .int), Cond.fieldLink RX8 217 "TankChainModel" "seeped" "I", Cond.fieldLink RX8 220 "TankChainModel" "kept" "I", Cond.fieldLink RX8 223 "TankChainModel" "rained" "I", Cond.fieldLink RX8 226 "TankChainModel" "out" "I", Cond.methodLink RX8 213 yX8_gives, Cond.instanceMethod yX8_gives, Cond.selects RX8 yX8_gives yX8_gives, Cond.code yX8_gives cX8_gives 11 (some .int), Cond.methodLink RX8 195 yX8_custom, Cond.instanceMethod yX8_custom]
def wsL_law_r25 : List Cond := [Cond.selects RX8 yX8_custom yX8_custom, Cond.code yX8_custom cX8_custom 3 (some .int), Cond.methodLink RX8 206 yX8_ordered, Cond.instanceMethod yX8_ordered, Cond.selects RX8 yX8_ordered yX8_ordered, Cond.code yX8_ordered cX8_ordered 5 (some .int), Cond.methodLink RX8 202 yX8_isAhead, Cond.instanceMethod yX8_isAhead, Cond.selects RX8 yX8_isAhead yX8_isAhead, Cond.code yX8_isAhead cX8_isAhead 5 (some .boolean), Cond.methodLink RX8 198 yX8_one, Cond.static yX8_one, Cond.code yX8_one cX8_one 1 (some .int), Cond.methodLink RX8 210 yX8_isBad, Cond.instanceMethod yX8_isBad, Cond.selects RX8 yX8_isBad yX8_isBad, Cond.code yX8_isBad cX8_isBad 3 (some .boolean), Cond.methodLink RL 68 yX7_told, Cond.instanceMethod yX7_told, Cond.selects RX7 yX7_told yX7_told, Cond.code yX7_told cX7_told 4 (some .int), Cond.fieldLink RX7 184 "TankChain$Pool" "taken" "I", Cond.fieldLink RX7 187 "TankChain$Pool" "spilt" "I", Cond.methodLink RX7 181 yX7_asNumber]
def wsL_law_r26 : List Cond := [Cond.static yX7_asNumber, Cond.code yX7_asNumber cX7_asNumber 1 (some .int), Cond.methodLink RX7 193 yX5_isBadYearWith, Cond.methodLink RL 71 yX8_told, Cond.instanceMethod yX8_told, Cond.selects RX8 yX8_told yX8_told, Cond.code yX8_told cX8_told 3 (some .int), Cond.methodLink RL 72 yX7_fieldOf, Cond.instanceMethod yX7_fieldOf, Cond.selects RX7 yX7_fieldOf yX7_fieldOf, Cond.code yX7_fieldOf cX7_fieldOf 4 (some .int), Cond.fieldLink RX7 204 "TankChain$Field" "far" "I", Cond.fieldLink RX7 207 "TankChain$Field" "area" "I", Cond.fieldLink RX7 210 "TankChain$Field" "owner" "I", Cond.fieldLink RX7 213 "TankChain$Field" "temple" "Z", Cond.fieldLink RX7 216 "TankChain$Field" "daysFed" "I", Cond.fieldLink RX7 219 "TankChain$Field" "gotEver" "I", Cond.fieldLink RX7 222 "TankChain$Field" "gotLately" "I", Cond.methodLink RL 75 yX8_fieldOf, Cond.instanceMethod yX8_fieldOf, Cond.selects RX8 yX8_fieldOf yX8_fieldOf, Cond.code yX8_fieldOf cX8_fieldOf 3 (some .int), Cond.methodLink RL 76 yX7_order, Cond.instanceMethod yX7_order]
def wsL_law_r27 : List Cond := [Cond.selects RX7 yX7_order yX7_order, Cond.code yX7_order cX7_order 6 (some .int), Cond.fieldLink RX7 229 "TankChain$Field" "number" "I", Cond.fieldLink RX7 232 "TankChain$Field" "next" "LTankChain$Field;", Cond.methodLink RL 79 yX8_order, Cond.instanceMethod yX8_order, Cond.selects RX8 yX8_order yX8_order, Cond.code yX8_order cX8_order 4 (some .int), Cond.methodLink RL 80 yX7_owner, Cond.instanceMethod yX7_owner, Cond.selects RX7 yX7_owner yX7_owner, Cond.code yX7_owner cX7_owner 5 (some .int), Cond.methodLink RL 83 yX8_owner, Cond.instanceMethod yX8_owner, Cond.selects RX8 yX8_owner yX8_owner, Cond.code yX8_owner cX8_owner 2 (some .int), Cond.methodLink RL 84 yX7_tried, Cond.instanceMethod yX7_tried, Cond.selects RX7 yX7_tried yX7_tried, Cond.code yX7_tried cX7_tried 5 (some .int), Cond.methodLink RX7 235 yX7_mayTry, Cond.static yX7_mayTry, Cond.code yX7_mayTry cX7_mayTry 2 (some .boolean), Cond.methodLink RX7 239 yX7_waterTried]
def wsL_law_r28 : List Cond := [Cond.instanceMethod yX7_waterTried, Cond.selects RX7 yX7_waterTried yX7_waterTried, Cond.code yX7_waterTried cX7_waterTried 6 (some .int), Cond.methodLink RL 88 yX8_tried, Cond.instanceMethod yX8_tried, Cond.selects RX8 yX8_tried yX8_tried, Cond.code yX8_tried cX8_tried 4 (some .int), Cond.methodLink RX8 236 yX8_isTrial, Cond.static yX8_isTrial, Cond.code yX8_isTrial cX8_isTrial 2 (some .boolean), Cond.methodLink RX8 239 yX8_openings, Cond.instanceMethod yX8_openings, Cond.selects RX8 yX8_openings yX8_openings, Cond.code yX8_openings cX8_openings 2 none, Cond.methodLink RX8 242 yX8_tries, Cond.instanceMethod yX8_tries, Cond.selects RX8 yX8_tries yX8_tries, Cond.code yX8_tries cX8_tries 5 (some .int), Cond.methodLink RL 89 yX7_lost, Cond.instanceMethod yX7_lost, Cond.selects RX7 yX7_lost yX7_lost, Cond.code yX7_lost cX7_lost 7 (some .int), Cond.constant RX7 243 (-100000), Cond.methodLink RL 93 yX8_lost]
def wsL_law_r29 : List Cond := [Cond.instanceMethod yX8_lost, Cond.selects RX8 yX8_lost yX8_lost, Cond.code yX8_lost cX8_lost 6 (some .int), Cond.constant RX8 245 (-100000), Cond.methodLink RL 94 yX7_most, Cond.instanceMethod yX7_most, Cond.selects RX7 yX7_most yX7_most, Cond.code yX7_most cX7_most 12 (some .int), Cond.methodLink RX7 244 yX7_areasFedBy, Cond.instanceMethod yX7_areasFedBy, Cond.selects RX7 yX7_areasFedBy yX7_areasFedBy, Cond.code yX7_areasFedBy cX7_areasFedBy 8 (some .int), Cond.fieldLink RX7 284 "TankChain$Flow" "areasFed" "I", Cond.methodLink RX7 248 yX7_openingIn, Cond.static yX7_openingIn, Cond.code yX7_openingIn cX7_openingIn 4 (some .int), Cond.methodLink RL 97 yX8_most, Cond.instanceMethod yX8_most, Cond.selects RX8 yX8_most yX8_most, Cond.code yX8_most cX8_most 12 (some .int), Cond.methodLink RL 98 yX7_breach, Cond.instanceMethod yX7_breach, Cond.selects RX7 yX7_breach yX7_breach, Cond.code yX7_breach cX7_breach 2 (some .int)]
def wsL_law_r30 : List Cond := [Cond.methodLink RL 101 yX8_breach, Cond.instanceMethod yX8_breach, Cond.selects RX8 yX8_breach yX8_breach, Cond.code yX8_breach cX8_breach 2 (some .int), Cond.methodLink RL 102 yX7_count, Cond.instanceMethod yX7_count, Cond.selects RX7 yX7_count yX7_count, Cond.code yX7_count cX7_count 2 (some .int), Cond.fieldLink RX7 255 "TankChain$Sums" "out" "I", Cond.fieldLink RX7 258 "TankChain$Sums" "seeped" "I", Cond.fieldLink RX7 261 "TankChain$Sums" "kept" "I", Cond.fieldLink RX7 264 "TankChain$Sums" "rained" "I", Cond.methodLink RX7 251 yX7_allWater, Cond.instanceMethod yX7_allWater, Cond.selects RX7 yX7_allWater yX7_allWater, Cond.code yX7_allWater cX7_allWater 3 (some .int), Cond.methodLink RL 105 yX8_count, Cond.instanceMethod yX8_count, Cond.selects RX8 yX8_count yX8_count, Cond.code yX8_count cX8_count 4 (some .int)]
def wsL_law : List Cond := (wsL_law_r1 ++ (wsL_law_r2 ++ (wsL_law_r3 ++ (wsL_law_r4 ++ (wsL_law_r5 ++ (wsL_law_r6 ++ (wsL_law_r7 ++ (wsL_law_r8 ++ (wsL_law_r9 ++ (wsL_law_r10 ++ (wsL_law_r11 ++ (wsL_law_r12 ++ (wsL_law_r13 ++ (wsL_law_r14 ++ (wsL_law_r15 ++ (wsL_law_r16 ++ (wsL_law_r17 ++ (wsL_law_r18 ++ (wsL_law_r19 ++ (wsL_law_r20 ++ (wsL_law_r21 ++ (wsL_law_r22 ++ (wsL_law_r23 ++ (wsL_law_r24 ++ (wsL_law_r25 ++ (wsL_law_r26 ++ (wsL_law_r27 ++ (wsL_law_r28 ++ (wsL_law_r29 ++ wsL_law_r30))))))))))))))))))))))))))))) ++ wsX70 ++ wsX80 ++ wsX60 ++ wsX00 ++ wsX40 ++ wsX50 ++ wsX20 ++ wsX30 ++ wsX10 ++ ([] : List Cond)
set_option maxRecDepth 20000 in
theorem wsL_law_in : ∀ w ∈ wsL_law, w ∈ lw_tbl := fun w h => (goodIn_p wsL_law [685, 53, 56, 149, 152, 63, 90, 124, 158, 164, 244, 690, 313, 317, 320, 840, 844, 847, 324, 328, 851, 855, 332, 336, 398, 402, 405, 859, 409, 863, 413, 867, 417, 871, 421, 425, 429, 875, 879, 433, 437, 441, 445, 449, 452, 455, 458, 462, 467, 471, 475, 481, 485, 488, 491, 496, 499, 502, 505, 509, 519, 524, 530, 536, 542, 546, 883, 887, 891, 896, 900, 907, 550, 913, 554, 558, 562, 566, 570, 574, 578, 582, 588, 591, 594, 597, 600, 604, 609, 614, 618, 623, 936, 940, 944, 929, 921, 925, 932, 948, 627, 630, 952, 635, 956, 639, 917, 643, 960, 647, 650, 654, 964, 967, 971, 975, 658, 979, 663, 667, 670, 984, 674, 988, 678, 682, 992] (by decide +kernel) (by decide +kernel) w h).1
theorem inlX0 : ∀ w ∈ wsX00, w ∈ wsL_law := fun _ h => List.mem_append_left _ (List.mem_append_left _ (List.mem_append_left _ (List.mem_append_left _ (List.mem_append_left _ (List.mem_append_left _ (List.mem_append_right _ h))))))
theorem inX0 : ∀ w ∈ wsX00, w ∈ lw_tbl := fun w h => wsL_law_in w (inlX0 w h)
theorem inlX1 : ∀ w ∈ wsX10, w ∈ wsL_law := fun _ h => List.mem_append_left _ (List.mem_append_right _ h)
theorem inX1 : ∀ w ∈ wsX10, w ∈ lw_tbl := fun w h => wsL_law_in w (inlX1 w h)
theorem inlX2 : ∀ w ∈ wsX20, w ∈ wsL_law := fun _ h => List.mem_append_left _ (List.mem_append_left _ (List.mem_append_left _ (List.mem_append_right _ h)))
theorem inX2 : ∀ w ∈ wsX20, w ∈ lw_tbl := fun w h => wsL_law_in w (inlX2 w h)
theorem inlX3 : ∀ w ∈ wsX30, w ∈ wsL_law := fun _ h => List.mem_append_left _ (List.mem_append_left _ (List.mem_append_right _ h))
theorem inX3 : ∀ w ∈ wsX30, w ∈ lw_tbl := fun w h => wsL_law_in w (inlX3 w h)
theorem inlX4 : ∀ w ∈ wsX40, w ∈ wsL_law := fun _ h => List.mem_append_left _ (List.mem_append_left _ (List.mem_append_left _ (List.mem_append_left _ (List.mem_append_left _ (List.mem_append_right _ h)))))
theorem inX4 : ∀ w ∈ wsX40, w ∈ lw_tbl := fun w h => wsL_law_in w (inlX4 w h)
theorem inlX5 : ∀ w ∈ wsX50, w ∈ wsL_law := fun _ h => List.mem_append_left _ (List.mem_append_left _ (List.mem_append_left _ (List.mem_append_left _ (List.mem_append_right _ h))))
theorem inX5 : ∀ w ∈ wsX50, w ∈ lw_tbl := fun w h => wsL_law_in w (inlX5 w h)
theorem inlX6 : ∀ w ∈ wsX60, w ∈ wsL_law := fun _ h => List.mem_append_left _ (List.mem_append_left _ (List.mem_append_left _ (List.mem_append_left _ (List.mem_append_left _ (List.mem_append_left _ (List.mem_append_left _ (List.mem_append_right _ h)))))))
theorem inX6 : ∀ w ∈ wsX60, w ∈ lw_tbl := fun w h => wsL_law_in w (inlX6 w h)
theorem inlX7 : ∀ w ∈ wsX70, w ∈ wsL_law := fun _ h => List.mem_append_left _ (List.mem_append_left _ (List.mem_append_left _ (List.mem_append_left _ (List.mem_append_left _ (List.mem_append_left _ (List.mem_append_left _ (List.mem_append_left _ (List.mem_append_left _ (List.mem_append_right _ h)))))))))
theorem inX7 : ∀ w ∈ wsX70, w ∈ lw_tbl := fun w h => wsL_law_in w (inlX7 w h)
theorem inlX8 : ∀ w ∈ wsX80, w ∈ wsL_law := fun _ h => List.mem_append_left _ (List.mem_append_left _ (List.mem_append_left _ (List.mem_append_left _ (List.mem_append_left _ (List.mem_append_left _ (List.mem_append_left _ (List.mem_append_left _ (List.mem_append_right _ h))))))))
theorem inX8 : ∀ w ∈ wsX80, w ∈ lw_tbl := fun w h => wsL_law_in w (inlX8 w h)
theorem inJ9 : ∀ w ∈ wsJ90, w ∈ lw_tbl := by decide +kernel
theorem inJ0 : ∀ w ∈ wsJ00, w ∈ lw_tbl := by decide +kernel
theorem inJ1 : ∀ w ∈ wsJ10, w ∈ lw_tbl := by decide +kernel
theorem inJ2 : ∀ w ∈ wsJ20, w ∈ lw_tbl := by decide +kernel
theorem inJ3 : ∀ w ∈ wsJ30, w ∈ lw_tbl := by decide +kernel
theorem dX0_init_0 : decode cX0_init 0 = .ok (.aload_n 0, 1) := by decide +kernel
theorem dX0_init_1 : decode cX0_init 1 = .ok (.invokespecial 3, 3) := by decide +kernel
theorem dX0_init_4 : decode cX0_init 4 = .ok (.aload_n 0, 1) := by decide +kernel
theorem dX0_init_5 : decode cX0_init 5 = .ok (.bipush 10, 2) := by decide +kernel
theorem dX0_init_7 : decode cX0_init 7 = .ok (.newarray .int, 2) := by decide +kernel
theorem dX0_init_9 : decode cX0_init 9 = .ok (.putfield 9, 3) := by decide +kernel
theorem dX0_init_12 : decode cX0_init 12 = .ok (.aload_n 0, 1) := by decide +kernel
theorem dX0_init_13 : decode cX0_init 13 = .ok (.iconst 0, 1) := by decide +kernel
theorem dX0_init_14 : decode cX0_init 14 = .ok (.putfield 15, 3) := by decide +kernel
theorem dX0_init_17 : decode cX0_init 17 = .ok (.aload_n 0, 1) := by decide +kernel
theorem dX0_init_18 : decode cX0_init 18 = .ok (.bipush 9, 2) := by decide +kernel
theorem dX0_init_20 : decode cX0_init 20 = .ok (.putfield 19, 3) := by decide +kernel
theorem dX0_init_23 : decode cX0_init 23 = .ok (.aload_n 0, 1) := by decide +kernel
theorem dX0_init_24 : decode cX0_init 24 = .ok (.iconst 0, 1) := by decide +kernel
theorem dX0_init_25 : decode cX0_init 25 = .ok (.putfield 22, 3) := by decide +kernel
theorem dX0_init_28 : decode cX0_init 28 = .ok (.aload_n 0, 1) := by decide +kernel
theorem dX0_init_29 : decode cX0_init 29 = .ok (.iconst 0, 1) := by decide +kernel
theorem dX0_init_30 : decode cX0_init 30 = .ok (.putfield 25, 3) := by decide +kernel
theorem dX0_init_33 : decode cX0_init 33 = .ok (.aload_n 0, 1) := by decide +kernel
theorem dX0_init_34 : decode cX0_init 34 = .ok (.iconst 0, 1) := by decide +kernel
theorem dX0_init_35 : decode cX0_init 35 = .ok (.putfield 29, 3) := by decide +kernel
theorem dX0_init_38 : decode cX0_init 38 = .ok (.return_, 1) := by decide +kernel
theorem dX0_clear_0 : decode cX0_clear 0 = .ok (.aload_n 0, 1) := by decide +kernel
theorem dX0_clear_1 : decode cX0_clear 1 = .ok (.iconst 0, 1) := by decide +kernel
theorem dX0_clear_2 : decode cX0_clear 2 = .ok (.putfield 15, 3) := by decide +kernel
theorem dX0_clear_5 : decode cX0_clear 5 = .ok (.aload_n 0, 1) := by decide +kernel
theorem dX0_clear_6 : decode cX0_clear 6 = .ok (.bipush 9, 2) := by decide +kernel
theorem dX0_clear_8 : decode cX0_clear 8 = .ok (.putfield 19, 3) := by decide +kernel
theorem dX0_clear_11 : decode cX0_clear 11 = .ok (.aload_n 0, 1) := by decide +kernel
theorem dX0_clear_12 : decode cX0_clear 12 = .ok (.iconst 0, 1) := by decide +kernel
theorem dX0_clear_13 : decode cX0_clear 13 = .ok (.putfield 22, 3) := by decide +kernel
theorem dX0_clear_16 : decode cX0_clear 16 = .ok (.aload_n 0, 1) := by decide +kernel
theorem dX0_clear_17 : decode cX0_clear 17 = .ok (.iconst 0, 1) := by decide +kernel
theorem dX0_clear_18 : decode cX0_clear 18 = .ok (.putfield 25, 3) := by decide +kernel
theorem dX0_clear_21 : decode cX0_clear 21 = .ok (.aload_n 0, 1) := by decide +kernel
theorem dX0_clear_22 : decode cX0_clear 22 = .ok (.iconst 0, 1) := by decide +kernel
theorem dX0_clear_23 : decode cX0_clear 23 = .ok (.putfield 29, 3) := by decide +kernel
theorem dX0_clear_26 : decode cX0_clear 26 = .ok (.return_, 1) := by decide +kernel
set_option maxRecDepth 20000 in
theorem ggX0_becomeAs_X0_clear : GoodIn wsX0_becomeAs wsX0_clear := goodIn_r _ [11, 1, 3, 4, 5, 6, 16, 17, 18, 19, 20, 21] (by decide +kernel) (by decide +kernel)
set_option maxRecDepth 20000 in
theorem gX0_becomeAs_X0_clear : GoodIn wsX0_becomeAs (wsV RX0 32 RX0 yX0_clear wsX0_clear) := goodIn_app (goodIn_of _ (by decide +kernel)) ggX0_becomeAs_X0_clear
set_option maxRecDepth 20000 in
theorem ggX0_becomeAs_X0_addFirst : GoodIn wsX0_becomeAs wsX0_addFirst := goodIn_r _ [15, 1, 2, 16, 17, 18, 19, 20, 21] (by decide +kernel) (by decide +kernel)
set_option maxRecDepth 20000 in
theorem gX0_becomeAs_X0_addFirst : GoodIn wsX0_becomeAs (wsV RX0 35 RX0 yX0_addFirst wsX0_addFirst) := goodIn_app (goodIn_of _ (by decide +kernel)) ggX0_becomeAs_X0_addFirst
theorem dX0_becomeAs_0 : decode cX0_becomeAs 0 = .ok (.aload_n 0, 1) := by decide +kernel
theorem dX0_becomeAs_1 : decode cX0_becomeAs 1 = .ok (.invokevirtual 32, 3) := by decide +kernel
theorem dX0_becomeAs_4 : decode cX0_becomeAs 4 = .ok (.iconst 0, 1) := by decide +kernel
theorem dX0_becomeAs_5 : decode cX0_becomeAs 5 = .ok (.istore_n 2, 1) := by decide +kernel
theorem dX0_becomeAs_6 : decode cX0_becomeAs 6 = .ok (.iload_n 2, 1) := by decide +kernel
theorem dX0_becomeAs_7 : decode cX0_becomeAs 7 = .ok (.aload_n 1, 1) := by decide +kernel
theorem dX0_becomeAs_8 : decode cX0_becomeAs 8 = .ok (.getfield 15, 3) := by decide +kernel
theorem dX0_becomeAs_11 : decode cX0_becomeAs 11 = .ok (.if_icmp .ge 28, 3) := by decide +kernel
theorem dX0_becomeAs_14 : decode cX0_becomeAs 14 = .ok (.iload_n 2, 1) := by decide +kernel
theorem dX0_becomeAs_15 : decode cX0_becomeAs 15 = .ok (.aload_n 1, 1) := by decide +kernel
theorem dX0_becomeAs_16 : decode cX0_becomeAs 16 = .ok (.getfield 9, 3) := by decide +kernel
theorem dX0_becomeAs_19 : decode cX0_becomeAs 19 = .ok (.arraylength, 1) := by decide +kernel
theorem dX0_becomeAs_20 : decode cX0_becomeAs 20 = .ok (.if_icmp .ge 19, 3) := by decide +kernel
theorem dX0_becomeAs_23 : decode cX0_becomeAs 23 = .ok (.aload_n 0, 1) := by decide +kernel
theorem dX0_becomeAs_24 : decode cX0_becomeAs 24 = .ok (.aload_n 1, 1) := by decide +kernel
theorem dX0_becomeAs_25 : decode cX0_becomeAs 25 = .ok (.getfield 9, 3) := by decide +kernel
theorem dX0_becomeAs_28 : decode cX0_becomeAs 28 = .ok (.iload_n 2, 1) := by decide +kernel
theorem dX0_becomeAs_29 : decode cX0_becomeAs 29 = .ok (.iaload, 1) := by decide +kernel
theorem dX0_becomeAs_30 : decode cX0_becomeAs 30 = .ok (.invokevirtual 35, 3) := by decide +kernel
theorem dX0_becomeAs_33 : decode cX0_becomeAs 33 = .ok (.iinc 2 1, 3) := by decide +kernel
theorem dX0_becomeAs_36 : decode cX0_becomeAs 36 = .ok (.goto (-30), 3) := by decide +kernel
theorem dX0_becomeAs_39 : decode cX0_becomeAs 39 = .ok (.aload_n 0, 1) := by decide +kernel
theorem dX0_becomeAs_40 : decode cX0_becomeAs 40 = .ok (.aload_n 1, 1) := by decide +kernel
theorem dX0_becomeAs_41 : decode cX0_becomeAs 41 = .ok (.getfield 19, 3) := by decide +kernel
theorem dX0_becomeAs_44 : decode cX0_becomeAs 44 = .ok (.putfield 19, 3) := by decide +kernel
theorem dX0_becomeAs_47 : decode cX0_becomeAs 47 = .ok (.aload_n 0, 1) := by decide +kernel
theorem dX0_becomeAs_48 : decode cX0_becomeAs 48 = .ok (.aload_n 1, 1) := by decide +kernel
theorem dX0_becomeAs_49 : decode cX0_becomeAs 49 = .ok (.getfield 22, 3) := by decide +kernel
theorem dX0_becomeAs_52 : decode cX0_becomeAs 52 = .ok (.putfield 22, 3) := by decide +kernel
theorem dX0_becomeAs_55 : decode cX0_becomeAs 55 = .ok (.aload_n 0, 1) := by decide +kernel
theorem dX0_becomeAs_56 : decode cX0_becomeAs 56 = .ok (.aload_n 1, 1) := by decide +kernel
theorem dX0_becomeAs_57 : decode cX0_becomeAs 57 = .ok (.getfield 25, 3) := by decide +kernel
theorem dX0_becomeAs_60 : decode cX0_becomeAs 60 = .ok (.putfield 25, 3) := by decide +kernel
theorem dX0_becomeAs_63 : decode cX0_becomeAs 63 = .ok (.aload_n 0, 1) := by decide +kernel
theorem dX0_becomeAs_64 : decode cX0_becomeAs 64 = .ok (.aload_n 1, 1) := by decide +kernel
theorem dX0_becomeAs_65 : decode cX0_becomeAs 65 = .ok (.getfield 29, 3) := by decide +kernel
theorem dX0_becomeAs_68 : decode cX0_becomeAs 68 = .ok (.putfield 29, 3) := by decide +kernel
theorem dX0_becomeAs_71 : decode cX0_becomeAs 71 = .ok (.return_, 1) := by decide +kernel
theorem dX0_addFirst_0 : decode cX0_addFirst 0 = .ok (.aload_n 0, 1) := by decide +kernel
theorem dX0_addFirst_1 : decode cX0_addFirst 1 = .ok (.getfield 15, 3) := by decide +kernel
theorem dX0_addFirst_4 : decode cX0_addFirst 4 = .ok (.aload_n 0, 1) := by decide +kernel
theorem dX0_addFirst_5 : decode cX0_addFirst 5 = .ok (.getfield 9, 3) := by decide +kernel
theorem dX0_addFirst_8 : decode cX0_addFirst 8 = .ok (.arraylength, 1) := by decide +kernel
theorem dX0_addFirst_9 : decode cX0_addFirst 9 = .ok (.if_icmp .ge 23, 3) := by decide +kernel
theorem dX0_addFirst_12 : decode cX0_addFirst 12 = .ok (.aload_n 0, 1) := by decide +kernel
theorem dX0_addFirst_13 : decode cX0_addFirst 13 = .ok (.getfield 9, 3) := by decide +kernel
theorem dX0_addFirst_16 : decode cX0_addFirst 16 = .ok (.aload_n 0, 1) := by decide +kernel
theorem dX0_addFirst_17 : decode cX0_addFirst 17 = .ok (.getfield 15, 3) := by decide +kernel
theorem dX0_addFirst_20 : decode cX0_addFirst 20 = .ok (.iload_n 1, 1) := by decide +kernel
theorem dX0_addFirst_21 : decode cX0_addFirst 21 = .ok (.iastore, 1) := by decide +kernel
theorem dX0_addFirst_22 : decode cX0_addFirst 22 = .ok (.aload_n 0, 1) := by decide +kernel
theorem dX0_addFirst_23 : decode cX0_addFirst 23 = .ok (.dup, 1) := by decide +kernel
theorem dX0_addFirst_24 : decode cX0_addFirst 24 = .ok (.getfield 15, 3) := by decide +kernel
theorem dX0_addFirst_27 : decode cX0_addFirst 27 = .ok (.iconst 1, 1) := by decide +kernel
theorem dX0_addFirst_28 : decode cX0_addFirst 28 = .ok (.iadd, 1) := by decide +kernel
theorem dX0_addFirst_29 : decode cX0_addFirst 29 = .ok (.putfield 15, 3) := by decide +kernel
theorem dX0_addFirst_32 : decode cX0_addFirst 32 = .ok (.return_, 1) := by decide +kernel
set_option maxRecDepth 20000 in
theorem ggX0_isAhead_X0_rank : GoodIn wsX0_isAhead wsX0_rank := goodIn_r _ [7, 8, 9, 10, 17, 18, 19, 20, 21, 22, 23, 24, 25, 26, 27, 28] (by decide +kernel) (by decide +kernel)
set_option maxRecDepth 20000 in
theorem gX0_isAhead_X0_rank : GoodIn wsX0_isAhead (va_wsS RX0 39 yX0_rank wsX0_rank) := goodIn_app (goodIn_of _ (by decide +kernel)) ggX0_isAhead_X0_rank
theorem dX0_isAhead_0 : decode cX0_isAhead 0 = .ok (.iconst 0, 1) := by decide +kernel
theorem dX0_isAhead_1 : decode cX0_isAhead 1 = .ok (.istore_n 3, 1) := by decide +kernel
theorem dX0_isAhead_2 : decode cX0_isAhead 2 = .ok (.iload_n 3, 1) := by decide +kernel
theorem dX0_isAhead_3 : decode cX0_isAhead 3 = .ok (.aload_n 0, 1) := by decide +kernel
theorem dX0_isAhead_4 : decode cX0_isAhead 4 = .ok (.getfield 15, 3) := by decide +kernel
theorem dX0_isAhead_7 : decode cX0_isAhead 7 = .ok (.if_icmp .ge 57, 3) := by decide +kernel
theorem dX0_isAhead_10 : decode cX0_isAhead 10 = .ok (.iload_n 3, 1) := by decide +kernel
theorem dX0_isAhead_11 : decode cX0_isAhead 11 = .ok (.aload_n 0, 1) := by decide +kernel
theorem dX0_isAhead_12 : decode cX0_isAhead 12 = .ok (.getfield 9, 3) := by decide +kernel
theorem dX0_isAhead_15 : decode cX0_isAhead 15 = .ok (.arraylength, 1) := by decide +kernel
theorem dX0_isAhead_16 : decode cX0_isAhead 16 = .ok (.if_icmp .ge 48, 3) := by decide +kernel
theorem dX0_isAhead_19 : decode cX0_isAhead 19 = .ok (.aload_n 1, 1) := by decide +kernel
theorem dX0_isAhead_20 : decode cX0_isAhead 20 = .ok (.aload_n 0, 1) := by decide +kernel
theorem dX0_isAhead_21 : decode cX0_isAhead 21 = .ok (.getfield 9, 3) := by decide +kernel
theorem dX0_isAhead_24 : decode cX0_isAhead 24 = .ok (.iload_n 3, 1) := by decide +kernel
theorem dX0_isAhead_25 : decode cX0_isAhead 25 = .ok (.iaload, 1) := by decide +kernel
theorem dX0_isAhead_26 : decode cX0_isAhead 26 = .ok (.invokestatic 39, 3) := by decide +kernel
theorem dX0_isAhead_29 : decode cX0_isAhead 29 = .ok (.aload_n 2, 1) := by decide +kernel
theorem dX0_isAhead_30 : decode cX0_isAhead 30 = .ok (.aload_n 0, 1) := by decide +kernel
theorem dX0_isAhead_31 : decode cX0_isAhead 31 = .ok (.getfield 9, 3) := by decide +kernel
theorem dX0_isAhead_34 : decode cX0_isAhead 34 = .ok (.iload_n 3, 1) := by decide +kernel
theorem dX0_isAhead_35 : decode cX0_isAhead 35 = .ok (.iaload, 1) := by decide +kernel
theorem dX0_isAhead_36 : decode cX0_isAhead 36 = .ok (.invokestatic 39, 3) := by decide +kernel
theorem dX0_isAhead_39 : decode cX0_isAhead 39 = .ok (.isub, 1) := by decide +kernel
theorem dX0_isAhead_40 : decode cX0_isAhead 40 = .ok (.istore 4, 2) := by decide +kernel
theorem dX0_isAhead_42 : decode cX0_isAhead 42 = .ok (.iload 4, 2) := by decide +kernel
theorem dX0_isAhead_44 : decode cX0_isAhead 44 = .ok (.ifCond .eq 14, 3) := by decide +kernel
theorem dX0_isAhead_47 : decode cX0_isAhead 47 = .ok (.iload 4, 2) := by decide +kernel
theorem dX0_isAhead_49 : decode cX0_isAhead 49 = .ok (.ifCond .ge 7, 3) := by decide +kernel
theorem dX0_isAhead_52 : decode cX0_isAhead 52 = .ok (.iconst 1, 1) := by decide +kernel
theorem dX0_isAhead_53 : decode cX0_isAhead 53 = .ok (.goto 4, 3) := by decide +kernel
theorem dX0_isAhead_56 : decode cX0_isAhead 56 = .ok (.iconst 0, 1) := by decide +kernel
theorem dX0_isAhead_57 : decode cX0_isAhead 57 = .ok (.ireturn, 1) := by decide +kernel
theorem dX0_isAhead_58 : decode cX0_isAhead 58 = .ok (.iinc 3 1, 3) := by decide +kernel
theorem dX0_isAhead_61 : decode cX0_isAhead 61 = .ok (.goto (-59), 3) := by decide +kernel
theorem dX0_isAhead_64 : decode cX0_isAhead 64 = .ok (.aload_n 1, 1) := by decide +kernel
theorem dX0_isAhead_65 : decode cX0_isAhead 65 = .ok (.getfield 43, 3) := by decide +kernel
theorem dX0_isAhead_68 : decode cX0_isAhead 68 = .ok (.aload_n 2, 1) := by decide +kernel
theorem dX0_isAhead_69 : decode cX0_isAhead 69 = .ok (.getfield 43, 3) := by decide +kernel
theorem dX0_isAhead_72 : decode cX0_isAhead 72 = .ok (.if_icmp .ge 7, 3) := by decide +kernel
theorem dX0_isAhead_75 : decode cX0_isAhead 75 = .ok (.iconst 1, 1) := by decide +kernel
theorem dX0_isAhead_76 : decode cX0_isAhead 76 = .ok (.goto 4, 3) := by decide +kernel
theorem dX0_isAhead_79 : decode cX0_isAhead 79 = .ok (.iconst 0, 1) := by decide +kernel
theorem dX0_isAhead_80 : decode cX0_isAhead 80 = .ok (.ireturn, 1) := by decide +kernel
theorem dX0_rank_0 : decode cX0_rank 0 = .ok (.iload_n 1, 1) := by decide +kernel
theorem dX0_rank_1 : decode cX0_rank 1 = .ok (.lookupswitch 45 #[(0, 27), (1, 40)], 27) := by decide +kernel
theorem dX0_rank_28 : decode cX0_rank 28 = .ok (.aload_n 0, 1) := by decide +kernel
theorem dX0_rank_29 : decode cX0_rank 29 = .ok (.getfield 48, 3) := by decide +kernel
theorem dX0_rank_32 : decode cX0_rank 32 = .ok (.ifCond .eq 7, 3) := by decide +kernel
theorem dX0_rank_35 : decode cX0_rank 35 = .ok (.iconst 0, 1) := by decide +kernel
theorem dX0_rank_36 : decode cX0_rank 36 = .ok (.goto 4, 3) := by decide +kernel
theorem dX0_rank_39 : decode cX0_rank 39 = .ok (.iconst 1, 1) := by decide +kernel
theorem dX0_rank_40 : decode cX0_rank 40 = .ok (.ireturn, 1) := by decide +kernel
theorem dX0_rank_41 : decode cX0_rank 41 = .ok (.aload_n 0, 1) := by decide +kernel
theorem dX0_rank_42 : decode cX0_rank 42 = .ok (.getfield 51, 3) := by decide +kernel
theorem dX0_rank_45 : decode cX0_rank 45 = .ok (.ireturn, 1) := by decide +kernel
theorem dX0_rank_46 : decode cX0_rank 46 = .ok (.aload_n 0, 1) := by decide +kernel
theorem dX0_rank_47 : decode cX0_rank 47 = .ok (.getfield 54, 3) := by decide +kernel
theorem dX0_rank_50 : decode cX0_rank 50 = .ok (.ireturn, 1) := by decide +kernel
theorem dX1_init_0 : decode cX1_init 0 = .ok (.aload_n 0, 1) := by decide +kernel
theorem dX1_init_1 : decode cX1_init 1 = .ok (.invokespecial 1, 3) := by decide +kernel
theorem dX1_init_4 : decode cX1_init 4 = .ok (.aload_n 0, 1) := by decide +kernel
theorem dX1_init_5 : decode cX1_init 5 = .ok (.aconst_null, 1) := by decide +kernel
theorem dX1_init_6 : decode cX1_init 6 = .ok (.putfield 7, 3) := by decide +kernel
theorem dX1_init_9 : decode cX1_init 9 = .ok (.aload_n 0, 1) := by decide +kernel
theorem dX1_init_10 : decode cX1_init 10 = .ok (.iconst 0, 1) := by decide +kernel
theorem dX1_init_11 : decode cX1_init 11 = .ok (.putfield 13, 3) := by decide +kernel
theorem dX1_init_14 : decode cX1_init 14 = .ok (.aload_n 0, 1) := by decide +kernel
theorem dX1_init_15 : decode cX1_init 15 = .ok (.iconst 0, 1) := by decide +kernel
theorem dX1_init_16 : decode cX1_init 16 = .ok (.putfield 17, 3) := by decide +kernel
theorem dX1_init_19 : decode cX1_init 19 = .ok (.aload_n 0, 1) := by decide +kernel
theorem dX1_init_20 : decode cX1_init 20 = .ok (.iconst 0, 1) := by decide +kernel
theorem dX1_init_21 : decode cX1_init 21 = .ok (.putfield 20, 3) := by decide +kernel
theorem dX1_init_24 : decode cX1_init 24 = .ok (.aload_n 0, 1) := by decide +kernel
theorem dX1_init_25 : decode cX1_init 25 = .ok (.iconst 0, 1) := by decide +kernel
theorem dX1_init_26 : decode cX1_init 26 = .ok (.putfield 23, 3) := by decide +kernel
theorem dX1_init_29 : decode cX1_init 29 = .ok (.aload_n 0, 1) := by decide +kernel
theorem dX1_init_30 : decode cX1_init 30 = .ok (.iconst 0, 1) := by decide +kernel
theorem dX1_init_31 : decode cX1_init 31 = .ok (.putfield 26, 3) := by decide +kernel
theorem dX1_init_34 : decode cX1_init 34 = .ok (.aload_n 0, 1) := by decide +kernel
theorem dX1_init_35 : decode cX1_init 35 = .ok (.iload_n 1, 1) := by decide +kernel
theorem dX1_init_36 : decode cX1_init 36 = .ok (.putfield 29, 3) := by decide +kernel
theorem dX1_init_39 : decode cX1_init 39 = .ok (.aload_n 0, 1) := by decide +kernel
theorem dX1_init_40 : decode cX1_init 40 = .ok (.iload_n 2, 1) := by decide +kernel
theorem dX1_init_41 : decode cX1_init 41 = .ok (.putfield 32, 3) := by decide +kernel
theorem dX1_init_44 : decode cX1_init 44 = .ok (.aload_n 0, 1) := by decide +kernel
theorem dX1_init_45 : decode cX1_init 45 = .ok (.iload_n 3, 1) := by decide +kernel
theorem dX1_init_46 : decode cX1_init 46 = .ok (.putfield 35, 3) := by decide +kernel
theorem dX1_init_49 : decode cX1_init 49 = .ok (.aload_n 0, 1) := by decide +kernel
theorem dX1_init_50 : decode cX1_init 50 = .ok (.iload 4, 2) := by decide +kernel
theorem dX1_init_52 : decode cX1_init 52 = .ok (.putfield 38, 3) := by decide +kernel
theorem dX1_init_55 : decode cX1_init 55 = .ok (.aload_n 0, 1) := by decide +kernel
theorem dX1_init_56 : decode cX1_init 56 = .ok (.iload 5, 2) := by decide +kernel
theorem dX1_init_58 : decode cX1_init 58 = .ok (.putfield 41, 3) := by decide +kernel
theorem dX1_init_61 : decode cX1_init 61 = .ok (.aload_n 0, 1) := by decide +kernel
theorem dX1_init_62 : decode cX1_init 62 = .ok (.iload 6, 2) := by decide +kernel
theorem dX1_init_64 : decode cX1_init 64 = .ok (.putfield 44, 3) := by decide +kernel
theorem dX1_init_67 : decode cX1_init 67 = .ok (.return_, 1) := by decide +kernel
theorem dX1_isFed_0 : decode cX1_isFed 0 = .ok (.aload_n 0, 1) := by decide +kernel
theorem dX1_isFed_1 : decode cX1_isFed 1 = .ok (.getfield 13, 3) := by decide +kernel
theorem dX1_isFed_4 : decode cX1_isFed 4 = .ok (.aload_n 0, 1) := by decide +kernel
theorem dX1_isFed_5 : decode cX1_isFed 5 = .ok (.getfield 38, 3) := by decide +kernel
theorem dX1_isFed_8 : decode cX1_isFed 8 = .ok (.if_icmp .ne 7, 3) := by decide +kernel
theorem dX1_isFed_11 : decode cX1_isFed 11 = .ok (.iconst 1, 1) := by decide +kernel
theorem dX1_isFed_12 : decode cX1_isFed 12 = .ok (.goto 4, 3) := by decide +kernel
theorem dX1_isFed_15 : decode cX1_isFed 15 = .ok (.iconst 0, 1) := by decide +kernel
theorem dX1_isFed_16 : decode cX1_isFed 16 = .ok (.ireturn, 1) := by decide +kernel
set_option maxRecDepth 20000 in
theorem ggX1_keepShare_X1_isFed : GoodIn wsX1_keepShare wsX1_isFed := goodIn_r _ [9, 1, 10, 11, 12, 13, 14, 15, 16, 17, 18, 19, 20, 21, 22] (by decide +kernel) (by decide +kernel)
set_option maxRecDepth 20000 in
theorem gX1_keepShare_X1_isFed : GoodIn wsX1_keepShare (wsV RX1 48 RX1 yX1_isFed wsX1_isFed) := goodIn_app (goodIn_of _ (by decide +kernel)) ggX1_keepShare_X1_isFed
theorem dX1_keepShare_0 : decode cX1_keepShare 0 = .ok (.aload_n 0, 1) := by decide +kernel
theorem dX1_keepShare_1 : decode cX1_keepShare 1 = .ok (.aload_n 0, 1) := by decide +kernel
theorem dX1_keepShare_2 : decode cX1_keepShare 2 = .ok (.getfield 13, 3) := by decide +kernel
theorem dX1_keepShare_5 : decode cX1_keepShare 5 = .ok (.putfield 26, 3) := by decide +kernel
theorem dX1_keepShare_8 : decode cX1_keepShare 8 = .ok (.aload_n 0, 1) := by decide +kernel
theorem dX1_keepShare_9 : decode cX1_keepShare 9 = .ok (.dup, 1) := by decide +kernel
theorem dX1_keepShare_10 : decode cX1_keepShare 10 = .ok (.getfield 23, 3) := by decide +kernel
theorem dX1_keepShare_13 : decode cX1_keepShare 13 = .ok (.aload_n 0, 1) := by decide +kernel
theorem dX1_keepShare_14 : decode cX1_keepShare 14 = .ok (.getfield 13, 3) := by decide +kernel
theorem dX1_keepShare_17 : decode cX1_keepShare 17 = .ok (.iadd, 1) := by decide +kernel
theorem dX1_keepShare_18 : decode cX1_keepShare 18 = .ok (.putfield 23, 3) := by decide +kernel
theorem dX1_keepShare_21 : decode cX1_keepShare 21 = .ok (.aload_n 0, 1) := by decide +kernel
theorem dX1_keepShare_22 : decode cX1_keepShare 22 = .ok (.invokevirtual 48, 3) := by decide +kernel
theorem dX1_keepShare_25 : decode cX1_keepShare 25 = .ok (.ifCond .eq 13, 3) := by decide +kernel
theorem dX1_keepShare_28 : decode cX1_keepShare 28 = .ok (.aload_n 0, 1) := by decide +kernel
theorem dX1_keepShare_29 : decode cX1_keepShare 29 = .ok (.dup, 1) := by decide +kernel
theorem dX1_keepShare_30 : decode cX1_keepShare 30 = .ok (.getfield 20, 3) := by decide +kernel
theorem dX1_keepShare_33 : decode cX1_keepShare 33 = .ok (.iconst 1, 1) := by decide +kernel
theorem dX1_keepShare_34 : decode cX1_keepShare 34 = .ok (.iadd, 1) := by decide +kernel
theorem dX1_keepShare_35 : decode cX1_keepShare 35 = .ok (.putfield 20, 3) := by decide +kernel
theorem dX1_keepShare_38 : decode cX1_keepShare 38 = .ok (.return_, 1) := by decide +kernel
set_option maxRecDepth 20000 in
theorem ggX2_init_X4_init : GoodIn wsX2_init wsX4_init := goodIn_r _ [12, 13, 2, 3, 14, 15, 16, 17, 18, 19, 20, 21] (by decide +kernel) (by decide +kernel)
set_option maxRecDepth 20000 in
theorem gX2_init_X4_init_n11 : GoodIn wsX2_init (wsX4_init) := ggX2_init_X4_init
theorem dX2_init_0 : decode cX2_init 0 = .ok (.aload_n 0, 1) := by decide +kernel
theorem dX2_init_1 : decode cX2_init 1 = .ok (.invokespecial 3, 3) := by decide +kernel
theorem dX2_init_4 : decode cX2_init 4 = .ok (.aload_n 0, 1) := by decide +kernel
theorem dX2_init_5 : decode cX2_init 5 = .ok (.new 9, 3) := by decide +kernel
theorem dX2_init_8 : decode cX2_init 8 = .ok (.dup, 1) := by decide +kernel
theorem dX2_init_9 : decode cX2_init 9 = .ok (.invokespecial 11, 3) := by decide +kernel
theorem dX2_init_12 : decode cX2_init 12 = .ok (.putfield 12, 3) := by decide +kernel
theorem dX2_init_15 : decode cX2_init 15 = .ok (.aload_n 0, 1) := by decide +kernel
theorem dX2_init_16 : decode cX2_init 16 = .ok (.iconst 0, 1) := by decide +kernel
theorem dX2_init_17 : decode cX2_init 17 = .ok (.putfield 18, 3) := by decide +kernel
theorem dX2_init_20 : decode cX2_init 20 = .ok (.aload_n 0, 1) := by decide +kernel
theorem dX2_init_21 : decode cX2_init 21 = .ok (.aload_n 1, 1) := by decide +kernel
theorem dX2_init_22 : decode cX2_init 22 = .ok (.putfield 22, 3) := by decide +kernel
theorem dX2_init_25 : decode cX2_init 25 = .ok (.aload_n 0, 1) := by decide +kernel
theorem dX2_init_26 : decode cX2_init 26 = .ok (.aload_n 2, 1) := by decide +kernel
theorem dX2_init_27 : decode cX2_init 27 = .ok (.putfield 26, 3) := by decide +kernel
theorem dX2_init_30 : decode cX2_init 30 = .ok (.return_, 1) := by decide +kernel
set_option maxRecDepth 20000 in
theorem ggX2_startFromNow_X3_becomeAs : GoodIn wsX2_startFromNow wsX3_becomeAs := goodIn_r _ [9, 10, 11, 12, 13, 14, 29, 30, 31, 32, 33] (by decide +kernel) (by decide +kernel)
set_option maxRecDepth 20000 in
theorem gX2_startFromNow_X3_becomeAs : GoodIn wsX2_startFromNow (wsV RX2 39 RX3 yX3_becomeAs wsX3_becomeAs) := goodIn_app (goodIn_of _ (by decide +kernel)) ggX2_startFromNow_X3_becomeAs
theorem dX2_startFromNow_0 : decode cX2_startFromNow 0 = .ok (.aload_n 0, 1) := by decide +kernel
theorem dX2_startFromNow_1 : decode cX2_startFromNow 1 = .ok (.getfield 22, 3) := by decide +kernel
theorem dX2_startFromNow_4 : decode cX2_startFromNow 4 = .ok (.astore_n 1, 1) := by decide +kernel
theorem dX2_startFromNow_5 : decode cX2_startFromNow 5 = .ok (.aload_n 1, 1) := by decide +kernel
theorem dX2_startFromNow_6 : decode cX2_startFromNow 6 = .ok (.ifnull 22, 3) := by decide +kernel
theorem dX2_startFromNow_9 : decode cX2_startFromNow 9 = .ok (.aload_n 1, 1) := by decide +kernel
theorem dX2_startFromNow_10 : decode cX2_startFromNow 10 = .ok (.getfield 30, 3) := by decide +kernel
theorem dX2_startFromNow_13 : decode cX2_startFromNow 13 = .ok (.aload_n 1, 1) := by decide +kernel
theorem dX2_startFromNow_14 : decode cX2_startFromNow 14 = .ok (.getfield 36, 3) := by decide +kernel
theorem dX2_startFromNow_17 : decode cX2_startFromNow 17 = .ok (.invokevirtual 39, 3) := by decide +kernel
theorem dX2_startFromNow_20 : decode cX2_startFromNow 20 = .ok (.aload_n 1, 1) := by decide +kernel
theorem dX2_startFromNow_21 : decode cX2_startFromNow 21 = .ok (.getfield 45, 3) := by decide +kernel
theorem dX2_startFromNow_24 : decode cX2_startFromNow 24 = .ok (.astore_n 1, 1) := by decide +kernel
theorem dX2_startFromNow_25 : decode cX2_startFromNow 25 = .ok (.goto (-20), 3) := by decide +kernel
theorem dX2_startFromNow_28 : decode cX2_startFromNow 28 = .ok (.return_, 1) := by decide +kernel
set_option maxRecDepth 20000 in
theorem ggX2_passDay_X4_clear : GoodIn wsX2_passDay wsX4_clear := goodIn_r _ [11, 12, 13, 14, 15, 97, 98, 99, 100] (by decide +kernel) (by decide +kernel)
set_option maxRecDepth 20000 in
theorem gX2_passDay_X4_clear : GoodIn wsX2_passDay (wsV RX2 48 RX4 yX4_clear wsX4_clear) := goodIn_app (goodIn_of _ (by decide +kernel)) ggX2_passDay_X4_clear
set_option maxRecDepth 20000 in
theorem ggX2_passDay_X2_sentDown : GoodIn wsX2_passDay wsX2_sentDown := goodIn_r _ [20, 21, 22, 23, 24, 25, 26, 27, 28, 29, 30, 1, 31, 32, 33, 34, 35, 36, 19, 37, 38, 39, 40, 41, 42, 43, 44, 45, 46, 47, 48, 2, 49, 50, 51, 52, 53, 54, 55, 56, 57, 58, 59, 60, 61, 62, 63, 64, 65, 66, 67, 68, 69, 70, 71, 72, 73, 74, 75, 76, 77, 78, 79, 80, 81, 82, 87, 88, 89, 90, 91, 92, 93, 94, 95, 96, 101, 102, 103, 104, 105, 83, 84, 85, 86, 97, 98, 99, 100, 106, 107, 108, 109, 110, 111, 112, 113, 114, 115, 116, 117, 118, 119, 120, 121, 122, 123] (by decide +kernel) (by decide +kernel)
set_option maxRecDepth 20000 in
theorem gX2_passDay_X2_sentDown : GoodIn wsX2_passDay (wsV RX2 54 RX2 yX2_sentDown wsX2_sentDown) := goodIn_app (goodIn_of _ (by decide +kernel)) ggX2_passDay_X2_sentDown
theorem dX2_passDay_0 : decode cX2_passDay 0 = .ok (.aload_n 0, 1) := by decide +kernel
theorem dX2_passDay_1 : decode cX2_passDay 1 = .ok (.getfield 12, 3) := by decide +kernel
theorem dX2_passDay_4 : decode cX2_passDay 4 = .ok (.invokevirtual 48, 3) := by decide +kernel
theorem dX2_passDay_7 : decode cX2_passDay 7 = .ok (.aload_n 0, 1) := by decide +kernel
theorem dX2_passDay_8 : decode cX2_passDay 8 = .ok (.iconst 0, 1) := by decide +kernel
theorem dX2_passDay_9 : decode cX2_passDay 9 = .ok (.putfield 18, 3) := by decide +kernel
theorem dX2_passDay_12 : decode cX2_passDay 12 = .ok (.iconst 0, 1) := by decide +kernel
theorem dX2_passDay_13 : decode cX2_passDay 13 = .ok (.istore_n 2, 1) := by decide +kernel
theorem dX2_passDay_14 : decode cX2_passDay 14 = .ok (.aload_n 0, 1) := by decide +kernel
theorem dX2_passDay_15 : decode cX2_passDay 15 = .ok (.getfield 22, 3) := by decide +kernel
theorem dX2_passDay_18 : decode cX2_passDay 18 = .ok (.astore_n 3, 1) := by decide +kernel
theorem dX2_passDay_19 : decode cX2_passDay 19 = .ok (.aload_n 3, 1) := by decide +kernel
theorem dX2_passDay_20 : decode cX2_passDay 20 = .ok (.ifnull 24, 3) := by decide +kernel
theorem dX2_passDay_23 : decode cX2_passDay 23 = .ok (.aload_n 0, 1) := by decide +kernel
theorem dX2_passDay_24 : decode cX2_passDay 24 = .ok (.aload_n 3, 1) := by decide +kernel
theorem dX2_passDay_25 : decode cX2_passDay 25 = .ok (.iload_n 1, 1) := by decide +kernel
theorem dX2_passDay_26 : decode cX2_passDay 26 = .ok (.aload_n 3, 1) := by decide +kernel
theorem dX2_passDay_27 : decode cX2_passDay 27 = .ok (.getfield 51, 3) := by decide +kernel
theorem dX2_passDay_30 : decode cX2_passDay 30 = .ok (.imul, 1) := by decide +kernel
theorem dX2_passDay_31 : decode cX2_passDay 31 = .ok (.iload_n 2, 1) := by decide +kernel
theorem dX2_passDay_32 : decode cX2_passDay 32 = .ok (.invokevirtual 54, 3) := by decide +kernel
theorem dX2_passDay_35 : decode cX2_passDay 35 = .ok (.istore_n 2, 1) := by decide +kernel
theorem dX2_passDay_36 : decode cX2_passDay 36 = .ok (.aload_n 3, 1) := by decide +kernel
theorem dX2_passDay_37 : decode cX2_passDay 37 = .ok (.getfield 45, 3) := by decide +kernel
theorem dX2_passDay_40 : decode cX2_passDay 40 = .ok (.astore_n 3, 1) := by decide +kernel
theorem dX2_passDay_41 : decode cX2_passDay 41 = .ok (.goto (-22), 3) := by decide +kernel
theorem dX2_passDay_44 : decode cX2_passDay 44 = .ok (.aload_n 0, 1) := by decide +kernel
theorem dX2_passDay_45 : decode cX2_passDay 45 = .ok (.getfield 12, 3) := by decide +kernel
theorem dX2_passDay_48 : decode cX2_passDay 48 = .ok (.dup, 1) := by decide +kernel
theorem dX2_passDay_49 : decode cX2_passDay 49 = .ok (.getfield 58, 3) := by decide +kernel
theorem dX2_passDay_52 : decode cX2_passDay 52 = .ok (.iload_n 2, 1) := by decide +kernel
theorem dX2_passDay_53 : decode cX2_passDay 53 = .ok (.iadd, 1) := by decide +kernel
theorem dX2_passDay_54 : decode cX2_passDay 54 = .ok (.putfield 58, 3) := by decide +kernel
theorem dX2_passDay_57 : decode cX2_passDay 57 = .ok (.return_, 1) := by decide +kernel
set_option maxRecDepth 20000 in
theorem ggX2_sentDown_X2_takenByFields : GoodIn wsX2_sentDown wsX2_takenByFields := goodIn_r _ [19, 20, 21, 22, 1, 23, 4, 5, 6, 7, 24, 25, 26, 27, 28, 29, 30, 31, 32, 33, 34, 35, 36, 37, 38, 39, 40, 41, 18, 42, 43, 44, 45, 46, 47, 48, 49, 50, 51, 52, 53, 54, 55, 56, 57, 58, 59, 60, 66, 67, 68, 69, 70, 71, 72, 73, 74, 75, 81, 82, 83, 84, 89, 90, 91, 92, 93, 94, 76, 77, 78, 79, 80, 95, 96, 97, 98, 99, 100, 101, 102, 103, 104, 105, 106] (by decide +kernel) (by decide +kernel)
set_option maxRecDepth 20000 in
theorem gX2_sentDown_X2_takenByFields : GoodIn wsX2_sentDown (wsV RX2 64 RX2 yX2_takenByFields wsX2_takenByFields) := goodIn_app (goodIn_of _ (by decide +kernel)) ggX2_sentDown_X2_takenByFields
set_option maxRecDepth 20000 in
theorem ggX2_sentDown_X5_roomIf : GoodIn wsX2_sentDown wsX5_roomIf := goodIn_r _ [64, 39, 65, 66, 67, 68, 69, 70, 71, 72, 73, 74, 75] (by decide +kernel) (by decide +kernel)
set_option maxRecDepth 20000 in
theorem gX2_sentDown_X5_roomIf : GoodIn wsX2_sentDown (wsV RX2 72 RX5 yX5_roomIf wsX5_roomIf) := goodIn_app (goodIn_of _ (by decide +kernel)) ggX2_sentDown_X5_roomIf
theorem dX2_sentDown_0 : decode cX2_sentDown 0 = .ok (.aload_n 1, 1) := by decide +kernel
theorem dX2_sentDown_1 : decode cX2_sentDown 1 = .ok (.getfield 30, 3) := by decide +kernel
theorem dX2_sentDown_4 : decode cX2_sentDown 4 = .ok (.astore 4, 2) := by decide +kernel
theorem dX2_sentDown_6 : decode cX2_sentDown 6 = .ok (.aload 4, 2) := by decide +kernel
theorem dX2_sentDown_8 : decode cX2_sentDown 8 = .ok (.getfield 61, 3) := by decide +kernel
theorem dX2_sentDown_11 : decode cX2_sentDown 11 = .ok (.iload_n 2, 1) := by decide +kernel
theorem dX2_sentDown_12 : decode cX2_sentDown 12 = .ok (.iadd, 1) := by decide +kernel
theorem dX2_sentDown_13 : decode cX2_sentDown 13 = .ok (.iload_n 3, 1) := by decide +kernel
theorem dX2_sentDown_14 : decode cX2_sentDown 14 = .ok (.iadd, 1) := by decide +kernel
theorem dX2_sentDown_15 : decode cX2_sentDown 15 = .ok (.istore 5, 2) := by decide +kernel
theorem dX2_sentDown_17 : decode cX2_sentDown 17 = .ok (.iload 5, 2) := by decide +kernel
theorem dX2_sentDown_19 : decode cX2_sentDown 19 = .ok (.bipush 50, 2) := by decide +kernel
theorem dX2_sentDown_21 : decode cX2_sentDown 21 = .ok (.idiv, 1) := by decide +kernel
theorem dX2_sentDown_22 : decode cX2_sentDown 22 = .ok (.istore 6, 2) := by decide +kernel
theorem dX2_sentDown_24 : decode cX2_sentDown 24 = .ok (.iload 5, 2) := by decide +kernel
theorem dX2_sentDown_26 : decode cX2_sentDown 26 = .ok (.iload 6, 2) := by decide +kernel
theorem dX2_sentDown_28 : decode cX2_sentDown 28 = .ok (.isub, 1) := by decide +kernel
theorem dX2_sentDown_29 : decode cX2_sentDown 29 = .ok (.istore 5, 2) := by decide +kernel
theorem dX2_sentDown_31 : decode cX2_sentDown 31 = .ok (.aload_n 0, 1) := by decide +kernel
theorem dX2_sentDown_32 : decode cX2_sentDown 32 = .ok (.aload_n 1, 1) := by decide +kernel
theorem dX2_sentDown_33 : decode cX2_sentDown 33 = .ok (.iload 5, 2) := by decide +kernel
theorem dX2_sentDown_35 : decode cX2_sentDown 35 = .ok (.invokevirtual 64, 3) := by decide +kernel
theorem dX2_sentDown_38 : decode cX2_sentDown 38 = .ok (.istore 7, 2) := by decide +kernel
theorem dX2_sentDown_40 : decode cX2_sentDown 40 = .ok (.iload 5, 2) := by decide +kernel
theorem dX2_sentDown_42 : decode cX2_sentDown 42 = .ok (.iload 7, 2) := by decide +kernel
theorem dX2_sentDown_44 : decode cX2_sentDown 44 = .ok (.isub, 1) := by decide +kernel
theorem dX2_sentDown_45 : decode cX2_sentDown 45 = .ok (.istore 5, 2) := by decide +kernel
theorem dX2_sentDown_47 : decode cX2_sentDown 47 = .ok (.iload 7, 2) := by decide +kernel
theorem dX2_sentDown_49 : decode cX2_sentDown 49 = .ok (.iconst 2, 1) := by decide +kernel
theorem dX2_sentDown_50 : decode cX2_sentDown 50 = .ok (.idiv, 1) := by decide +kernel
theorem dX2_sentDown_51 : decode cX2_sentDown 51 = .ok (.istore 8, 2) := by decide +kernel
theorem dX2_sentDown_53 : decode cX2_sentDown 53 = .ok (.iconst 0, 1) := by decide +kernel
theorem dX2_sentDown_54 : decode cX2_sentDown 54 = .ok (.iload 5, 2) := by decide +kernel
theorem dX2_sentDown_56 : decode cX2_sentDown 56 = .ok (.aload_n 1, 1) := by decide +kernel
theorem dX2_sentDown_57 : decode cX2_sentDown 57 = .ok (.aload 4, 2) := by decide +kernel
theorem dX2_sentDown_59 : decode cX2_sentDown 59 = .ok (.getfield 68, 3) := by decide +kernel
theorem dX2_sentDown_62 : decode cX2_sentDown 62 = .ok (.invokevirtual 72, 3) := by decide +kernel
theorem dX2_sentDown_65 : decode cX2_sentDown 65 = .ok (.isub, 1) := by decide +kernel
theorem dX2_sentDown_66 : decode cX2_sentDown 66 = .ok (.invokestatic 76, 3) := by decide +kernel
theorem dX2_sentDown_69 : decode cX2_sentDown 69 = .ok (.istore 9, 2) := by decide +kernel
theorem dX2_sentDown_71 : decode cX2_sentDown 71 = .ok (.aload 4, 2) := by decide +kernel
theorem dX2_sentDown_73 : decode cX2_sentDown 73 = .ok (.getfield 68, 3) := by decide +kernel
theorem dX2_sentDown_76 : decode cX2_sentDown 76 = .ok (.ifCond .ne 22, 3) := by decide +kernel
theorem dX2_sentDown_79 : decode cX2_sentDown 79 = .ok (.iload 9, 2) := by decide +kernel
theorem dX2_sentDown_81 : decode cX2_sentDown 81 = .ok (.aload_n 1, 1) := by decide +kernel
theorem dX2_sentDown_82 : decode cX2_sentDown 82 = .ok (.getfield 82, 3) := by decide +kernel
theorem dX2_sentDown_85 : decode cX2_sentDown 85 = .ok (.if_icmp .le 13, 3) := by decide +kernel
theorem dX2_sentDown_88 : decode cX2_sentDown 88 = .ok (.aload 4, 2) := by decide +kernel
theorem dX2_sentDown_90 : decode cX2_sentDown 90 = .ok (.iconst 1, 1) := by decide +kernel
theorem dX2_sentDown_91 : decode cX2_sentDown 91 = .ok (.putfield 68, 3) := by decide +kernel
theorem dX2_sentDown_94 : decode cX2_sentDown 94 = .ok (.iload 5, 2) := by decide +kernel
theorem dX2_sentDown_96 : decode cX2_sentDown 96 = .ok (.istore 9, 2) := by decide +kernel
theorem dX2_sentDown_98 : decode cX2_sentDown 98 = .ok (.aload 4, 2) := by decide +kernel
theorem dX2_sentDown_100 : decode cX2_sentDown 100 = .ok (.iload 5, 2) := by decide +kernel
theorem dX2_sentDown_102 : decode cX2_sentDown 102 = .ok (.iload 9, 2) := by decide +kernel
theorem dX2_sentDown_104 : decode cX2_sentDown 104 = .ok (.isub, 1) := by decide +kernel
theorem dX2_sentDown_105 : decode cX2_sentDown 105 = .ok (.putfield 61, 3) := by decide +kernel
theorem dX2_sentDown_108 : decode cX2_sentDown 108 = .ok (.aload 4, 2) := by decide +kernel
theorem dX2_sentDown_110 : decode cX2_sentDown 110 = .ok (.iload 7, 2) := by decide +kernel
theorem dX2_sentDown_112 : decode cX2_sentDown 112 = .ok (.putfield 85, 3) := by decide +kernel
theorem dX2_sentDown_115 : decode cX2_sentDown 115 = .ok (.aload 4, 2) := by decide +kernel
theorem dX2_sentDown_117 : decode cX2_sentDown 117 = .ok (.iload 9, 2) := by decide +kernel
theorem dX2_sentDown_119 : decode cX2_sentDown 119 = .ok (.putfield 88, 3) := by decide +kernel
theorem dX2_sentDown_122 : decode cX2_sentDown 122 = .ok (.aload_n 0, 1) := by decide +kernel
theorem dX2_sentDown_123 : decode cX2_sentDown 123 = .ok (.getfield 12, 3) := by decide +kernel
theorem dX2_sentDown_126 : decode cX2_sentDown 126 = .ok (.dup, 1) := by decide +kernel
theorem dX2_sentDown_127 : decode cX2_sentDown 127 = .ok (.getfield 91, 3) := by decide +kernel
theorem dX2_sentDown_130 : decode cX2_sentDown 130 = .ok (.iload_n 2, 1) := by decide +kernel
theorem dX2_sentDown_131 : decode cX2_sentDown 131 = .ok (.iadd, 1) := by decide +kernel
theorem dX2_sentDown_132 : decode cX2_sentDown 132 = .ok (.putfield 91, 3) := by decide +kernel
theorem dX2_sentDown_135 : decode cX2_sentDown 135 = .ok (.aload_n 0, 1) := by decide +kernel
theorem dX2_sentDown_136 : decode cX2_sentDown 136 = .ok (.getfield 12, 3) := by decide +kernel
theorem dX2_sentDown_139 : decode cX2_sentDown 139 = .ok (.dup, 1) := by decide +kernel
theorem dX2_sentDown_140 : decode cX2_sentDown 140 = .ok (.getfield 94, 3) := by decide +kernel
theorem dX2_sentDown_143 : decode cX2_sentDown 143 = .ok (.iload 6, 2) := by decide +kernel
theorem dX2_sentDown_145 : decode cX2_sentDown 145 = .ok (.iadd, 1) := by decide +kernel
theorem dX2_sentDown_146 : decode cX2_sentDown 146 = .ok (.putfield 94, 3) := by decide +kernel
theorem dX2_sentDown_149 : decode cX2_sentDown 149 = .ok (.aload_n 0, 1) := by decide +kernel
theorem dX2_sentDown_150 : decode cX2_sentDown 150 = .ok (.getfield 12, 3) := by decide +kernel
theorem dX2_sentDown_153 : decode cX2_sentDown 153 = .ok (.dup, 1) := by decide +kernel
theorem dX2_sentDown_154 : decode cX2_sentDown 154 = .ok (.getfield 97, 3) := by decide +kernel
theorem dX2_sentDown_157 : decode cX2_sentDown 157 = .ok (.iload 7, 2) := by decide +kernel
theorem dX2_sentDown_159 : decode cX2_sentDown 159 = .ok (.iload 8, 2) := by decide +kernel
theorem dX2_sentDown_161 : decode cX2_sentDown 161 = .ok (.isub, 1) := by decide +kernel
theorem dX2_sentDown_162 : decode cX2_sentDown 162 = .ok (.iadd, 1) := by decide +kernel
theorem dX2_sentDown_163 : decode cX2_sentDown 163 = .ok (.putfield 97, 3) := by decide +kernel
theorem dX2_sentDown_166 : decode cX2_sentDown 166 = .ok (.iload 8, 2) := by decide +kernel
theorem dX2_sentDown_168 : decode cX2_sentDown 168 = .ok (.iload 9, 2) := by decide +kernel
theorem dX2_sentDown_170 : decode cX2_sentDown 170 = .ok (.iadd, 1) := by decide +kernel
theorem dX2_sentDown_171 : decode cX2_sentDown 171 = .ok (.ireturn, 1) := by decide +kernel
set_option maxRecDepth 20000 in
theorem ggX2_takenByFields_X5_isBadYearWith : GoodIn wsX2_takenByFields wsX5_isBadYearWith := goodIn_r _ [24, 25, 48, 49, 50, 51, 52, 53, 54, 55, 56, 57] (by decide +kernel) (by decide +kernel)
set_option maxRecDepth 20000 in
theorem gX2_takenByFields_X5_isBadYearWith : GoodIn wsX2_takenByFields (wsV RX2 114 RX5 yX5_isBadYearWith wsX5_isBadYearWith) := goodIn_app (goodIn_of _ (by decide +kernel)) ggX2_takenByFields_X5_isBadYearWith
set_option maxRecDepth 20000 in
theorem ggX2_takenByFields_X2_areasWithin : GoodIn wsX2_takenByFields wsX2_areasWithin := goodIn_r _ [29, 15, 30, 18, 19, 48, 49, 50, 51, 52, 53, 54, 55, 56, 57, 73, 74, 75, 76, 77, 78, 79, 80, 81, 82, 83, 84] (by decide +kernel) (by decide +kernel)
set_option maxRecDepth 20000 in
theorem gX2_takenByFields_X2_areasWithin : GoodIn wsX2_takenByFields (va_wsS RX2 121 yX2_areasWithin wsX2_areasWithin) := goodIn_app (goodIn_of _ (by decide +kernel)) ggX2_takenByFields_X2_areasWithin
set_option maxRecDepth 20000 in
theorem ggX2_takenByFields_X2_shareFairly : GoodIn wsX2_takenByFields wsX2_shareFairly := goodIn_r _ [33, 15, 30, 18, 16, 34, 19, 35, 36, 28, 37, 48, 49, 50, 51, 52, 53, 54, 55, 56, 57, 73, 74, 75, 76, 77, 78, 79, 80, 81, 82, 83, 84] (by decide +kernel) (by decide +kernel)
set_option maxRecDepth 20000 in
theorem gX2_takenByFields_X2_shareFairly : GoodIn wsX2_takenByFields (va_wsS RX2 127 yX2_shareFairly wsX2_shareFairly) := goodIn_app (goodIn_of _ (by decide +kernel)) ggX2_takenByFields_X2_shareFairly
set_option maxRecDepth 20000 in
theorem ggX2_takenByFields_X2_shareInOrder : GoodIn wsX2_takenByFields wsX2_shareInOrder := goodIn_r _ [40, 15, 30, 18, 16, 19, 48, 49, 50, 51, 52, 53, 54, 55, 56, 57, 73, 74, 75, 76, 77, 78, 79, 80, 81, 82, 83, 84] (by decide +kernel) (by decide +kernel)
set_option maxRecDepth 20000 in
theorem gX2_takenByFields_X2_shareInOrder : GoodIn wsX2_takenByFields (va_wsS RX2 131 yX2_shareInOrder wsX2_shareInOrder) := goodIn_app (goodIn_of _ (by decide +kernel)) ggX2_takenByFields_X2_shareInOrder
set_option maxRecDepth 20000 in
theorem ggX2_takenByFields_X1_isFed : GoodIn wsX2_takenByFields wsX1_isFed := goodIn_r _ [45, 46, 47, 73, 74, 75, 76, 77, 78, 79, 80, 81, 82, 83, 84] (by decide +kernel) (by decide +kernel)
set_option maxRecDepth 20000 in
theorem gX2_takenByFields_X1_isFed : GoodIn wsX2_takenByFields (wsV RX2 144 RX1 yX1_isFed wsX1_isFed) := goodIn_app (goodIn_of _ (by decide +kernel)) ggX2_takenByFields_X1_isFed
theorem dX2_takenByFields_0 : decode cX2_takenByFields 0 = .ok (.aload_n 1, 1) := by decide +kernel
theorem dX2_takenByFields_1 : decode cX2_takenByFields 1 = .ok (.getfield 100, 3) := by decide +kernel
theorem dX2_takenByFields_4 : decode cX2_takenByFields 4 = .ok (.aload_n 0, 1) := by decide +kernel
theorem dX2_takenByFields_5 : decode cX2_takenByFields 5 = .ok (.getfield 26, 3) := by decide +kernel
theorem dX2_takenByFields_8 : decode cX2_takenByFields 8 = .ok (.getfield 103, 3) := by decide +kernel
theorem dX2_takenByFields_11 : decode cX2_takenByFields 11 = .ok (.imul, 1) := by decide +kernel
theorem dX2_takenByFields_12 : decode cX2_takenByFields 12 = .ok (.bipush 100, 2) := by decide +kernel
theorem dX2_takenByFields_14 : decode cX2_takenByFields 14 = .ok (.idiv, 1) := by decide +kernel
theorem dX2_takenByFields_15 : decode cX2_takenByFields 15 = .ok (.istore_n 3, 1) := by decide +kernel
theorem dX2_takenByFields_16 : decode cX2_takenByFields 16 = .ok (.aload_n 1, 1) := by decide +kernel
theorem dX2_takenByFields_17 : decode cX2_takenByFields 17 = .ok (.getfield 30, 3) := by decide +kernel
theorem dX2_takenByFields_20 : decode cX2_takenByFields 20 = .ok (.getfield 108, 3) := by decide +kernel
theorem dX2_takenByFields_23 : decode cX2_takenByFields 23 = .ok (.iconst 0, 1) := by decide +kernel
theorem dX2_takenByFields_24 : decode cX2_takenByFields 24 = .ok (.iload_n 2, 1) := by decide +kernel
theorem dX2_takenByFields_25 : decode cX2_takenByFields 25 = .ok (.iload_n 3, 1) := by decide +kernel
theorem dX2_takenByFields_26 : decode cX2_takenByFields 26 = .ok (.isub, 1) := by decide +kernel
theorem dX2_takenByFields_27 : decode cX2_takenByFields 27 = .ok (.invokestatic 76, 3) := by decide +kernel
theorem dX2_takenByFields_30 : decode cX2_takenByFields 30 = .ok (.invokestatic 111, 3) := by decide +kernel
theorem dX2_takenByFields_33 : decode cX2_takenByFields 33 = .ok (.istore 4, 2) := by decide +kernel
theorem dX2_takenByFields_35 : decode cX2_takenByFields 35 = .ok (.aload_n 1, 1) := by decide +kernel
theorem dX2_takenByFields_36 : decode cX2_takenByFields 36 = .ok (.iload_n 2, 1) := by decide +kernel
theorem dX2_takenByFields_37 : decode cX2_takenByFields 37 = .ok (.invokevirtual 114, 3) := by decide +kernel
theorem dX2_takenByFields_40 : decode cX2_takenByFields 40 = .ok (.ifCond .eq 13, 3) := by decide +kernel
theorem dX2_takenByFields_43 : decode cX2_takenByFields 43 = .ok (.aload_n 0, 1) := by decide +kernel
theorem dX2_takenByFields_44 : decode cX2_takenByFields 44 = .ok (.getfield 26, 3) := by decide +kernel
theorem dX2_takenByFields_47 : decode cX2_takenByFields 47 = .ok (.getfield 118, 3) := by decide +kernel
theorem dX2_takenByFields_50 : decode cX2_takenByFields 50 = .ok (.goto 5, 3) := by decide +kernel
theorem dX2_takenByFields_53 : decode cX2_takenByFields 53 = .ok (.bipush 9, 2) := by decide +kernel
theorem dX2_takenByFields_55 : decode cX2_takenByFields 55 = .ok (.istore 5, 2) := by decide +kernel
theorem dX2_takenByFields_57 : decode cX2_takenByFields 57 = .ok (.aload_n 1, 1) := by decide +kernel
theorem dX2_takenByFields_58 : decode cX2_takenByFields 58 = .ok (.iload 5, 2) := by decide +kernel
theorem dX2_takenByFields_60 : decode cX2_takenByFields 60 = .ok (.invokestatic 121, 3) := by decide +kernel
theorem dX2_takenByFields_63 : decode cX2_takenByFields 63 = .ok (.istore 6, 2) := by decide +kernel
theorem dX2_takenByFields_65 : decode cX2_takenByFields 65 = .ok (.aload_n 0, 1) := by decide +kernel
theorem dX2_takenByFields_66 : decode cX2_takenByFields 66 = .ok (.getfield 26, 3) := by decide +kernel
theorem dX2_takenByFields_69 : decode cX2_takenByFields 69 = .ok (.getfield 124, 3) := by decide +kernel
theorem dX2_takenByFields_72 : decode cX2_takenByFields 72 = .ok (.ifCond .eq 23, 3) := by decide +kernel
theorem dX2_takenByFields_75 : decode cX2_takenByFields 75 = .ok (.iload 4, 2) := by decide +kernel
theorem dX2_takenByFields_77 : decode cX2_takenByFields 77 = .ok (.iload 6, 2) := by decide +kernel
theorem dX2_takenByFields_79 : decode cX2_takenByFields 79 = .ok (.if_icmp .ge 16, 3) := by decide +kernel
theorem dX2_takenByFields_82 : decode cX2_takenByFields 82 = .ok (.aload_n 1, 1) := by decide +kernel
theorem dX2_takenByFields_83 : decode cX2_takenByFields 83 = .ok (.iload 5, 2) := by decide +kernel
theorem dX2_takenByFields_85 : decode cX2_takenByFields 85 = .ok (.iload 4, 2) := by decide +kernel
theorem dX2_takenByFields_87 : decode cX2_takenByFields 87 = .ok (.iload 6, 2) := by decide +kernel
theorem dX2_takenByFields_89 : decode cX2_takenByFields 89 = .ok (.invokestatic 127, 3) := by decide +kernel
theorem dX2_takenByFields_92 : decode cX2_takenByFields 92 = .ok (.goto 11, 3) := by decide +kernel
theorem dX2_takenByFields_95 : decode cX2_takenByFields 95 = .ok (.aload_n 1, 1) := by decide +kernel
theorem dX2_takenByFields_96 : decode cX2_takenByFields 96 = .ok (.iload 5, 2) := by decide +kernel
theorem dX2_takenByFields_98 : decode cX2_takenByFields 98 = .ok (.iload 4, 2) := by decide +kernel
theorem dX2_takenByFields_100 : decode cX2_takenByFields 100 = .ok (.invokestatic 131, 3) := by decide +kernel
theorem dX2_takenByFields_103 : decode cX2_takenByFields 103 = .ok (.iconst 0, 1) := by decide +kernel
theorem dX2_takenByFields_104 : decode cX2_takenByFields 104 = .ok (.istore 7, 2) := by decide +kernel
theorem dX2_takenByFields_106 : decode cX2_takenByFields 106 = .ok (.aload_n 1, 1) := by decide +kernel
theorem dX2_takenByFields_107 : decode cX2_takenByFields 107 = .ok (.getfield 135, 3) := by decide +kernel
theorem dX2_takenByFields_110 : decode cX2_takenByFields 110 = .ok (.astore 8, 2) := by decide +kernel
theorem dX2_takenByFields_112 : decode cX2_takenByFields 112 = .ok (.aload 8, 2) := by decide +kernel
theorem dX2_takenByFields_114 : decode cX2_takenByFields 114 = .ok (.ifnull 49, 3) := by decide +kernel
theorem dX2_takenByFields_117 : decode cX2_takenByFields 117 = .ok (.iload 7, 2) := by decide +kernel
theorem dX2_takenByFields_119 : decode cX2_takenByFields 119 = .ok (.aload 8, 2) := by decide +kernel
theorem dX2_takenByFields_121 : decode cX2_takenByFields 121 = .ok (.getfield 139, 3) := by decide +kernel
theorem dX2_takenByFields_124 : decode cX2_takenByFields 124 = .ok (.iadd, 1) := by decide +kernel
theorem dX2_takenByFields_125 : decode cX2_takenByFields 125 = .ok (.istore 7, 2) := by decide +kernel
theorem dX2_takenByFields_127 : decode cX2_takenByFields 127 = .ok (.aload_n 0, 1) := by decide +kernel
theorem dX2_takenByFields_128 : decode cX2_takenByFields 128 = .ok (.dup, 1) := by decide +kernel
theorem dX2_takenByFields_129 : decode cX2_takenByFields 129 = .ok (.getfield 18, 3) := by decide +kernel
theorem dX2_takenByFields_132 : decode cX2_takenByFields 132 = .ok (.aload 8, 2) := by decide +kernel
theorem dX2_takenByFields_134 : decode cX2_takenByFields 134 = .ok (.invokevirtual 144, 3) := by decide +kernel
theorem dX2_takenByFields_137 : decode cX2_takenByFields 137 = .ok (.ifCond .eq 11, 3) := by decide +kernel
theorem dX2_takenByFields_140 : decode cX2_takenByFields 140 = .ok (.aload 8, 2) := by decide +kernel
theorem dX2_takenByFields_142 : decode cX2_takenByFields 142 = .ok (.getfield 148, 3) := by decide +kernel
theorem dX2_takenByFields_145 : decode cX2_takenByFields 145 = .ok (.goto 4, 3) := by decide +kernel
theorem dX2_takenByFields_148 : decode cX2_takenByFields 148 = .ok (.iconst 0, 1) := by decide +kernel
theorem dX2_takenByFields_149 : decode cX2_takenByFields 149 = .ok (.iadd, 1) := by decide +kernel
theorem dX2_takenByFields_150 : decode cX2_takenByFields 150 = .ok (.putfield 18, 3) := by decide +kernel
theorem dX2_takenByFields_153 : decode cX2_takenByFields 153 = .ok (.aload 8, 2) := by decide +kernel
theorem dX2_takenByFields_155 : decode cX2_takenByFields 155 = .ok (.getfield 151, 3) := by decide +kernel
theorem dX2_takenByFields_158 : decode cX2_takenByFields 158 = .ok (.astore 8, 2) := by decide +kernel
theorem dX2_takenByFields_160 : decode cX2_takenByFields 160 = .ok (.goto (-48), 3) := by decide +kernel
theorem dX2_takenByFields_163 : decode cX2_takenByFields 163 = .ok (.iload 7, 2) := by decide +kernel
theorem dX2_takenByFields_165 : decode cX2_takenByFields 165 = .ok (.ireturn, 1) := by decide +kernel
theorem dX2_areasWithin_0 : decode cX2_areasWithin 0 = .ok (.iconst 0, 1) := by decide +kernel
theorem dX2_areasWithin_1 : decode cX2_areasWithin 1 = .ok (.istore_n 2, 1) := by decide +kernel
theorem dX2_areasWithin_2 : decode cX2_areasWithin 2 = .ok (.aload_n 0, 1) := by decide +kernel
theorem dX2_areasWithin_3 : decode cX2_areasWithin 3 = .ok (.getfield 135, 3) := by decide +kernel
theorem dX2_areasWithin_6 : decode cX2_areasWithin 6 = .ok (.astore_n 3, 1) := by decide +kernel
theorem dX2_areasWithin_7 : decode cX2_areasWithin 7 = .ok (.aload_n 3, 1) := by decide +kernel
theorem dX2_areasWithin_8 : decode cX2_areasWithin 8 = .ok (.ifnull 30, 3) := by decide +kernel
theorem dX2_areasWithin_11 : decode cX2_areasWithin 11 = .ok (.iload_n 2, 1) := by decide +kernel
theorem dX2_areasWithin_12 : decode cX2_areasWithin 12 = .ok (.aload_n 3, 1) := by decide +kernel
theorem dX2_areasWithin_13 : decode cX2_areasWithin 13 = .ok (.getfield 154, 3) := by decide +kernel
theorem dX2_areasWithin_16 : decode cX2_areasWithin 16 = .ok (.iload_n 1, 1) := by decide +kernel
theorem dX2_areasWithin_17 : decode cX2_areasWithin 17 = .ok (.if_icmp .gt 10, 3) := by decide +kernel
theorem dX2_areasWithin_20 : decode cX2_areasWithin 20 = .ok (.aload_n 3, 1) := by decide +kernel
theorem dX2_areasWithin_21 : decode cX2_areasWithin 21 = .ok (.getfield 148, 3) := by decide +kernel
theorem dX2_areasWithin_24 : decode cX2_areasWithin 24 = .ok (.goto 4, 3) := by decide +kernel
theorem dX2_areasWithin_27 : decode cX2_areasWithin 27 = .ok (.iconst 0, 1) := by decide +kernel
theorem dX2_areasWithin_28 : decode cX2_areasWithin 28 = .ok (.iadd, 1) := by decide +kernel
theorem dX2_areasWithin_29 : decode cX2_areasWithin 29 = .ok (.istore_n 2, 1) := by decide +kernel
theorem dX2_areasWithin_30 : decode cX2_areasWithin 30 = .ok (.aload_n 3, 1) := by decide +kernel
theorem dX2_areasWithin_31 : decode cX2_areasWithin 31 = .ok (.getfield 151, 3) := by decide +kernel
theorem dX2_areasWithin_34 : decode cX2_areasWithin 34 = .ok (.astore_n 3, 1) := by decide +kernel
theorem dX2_areasWithin_35 : decode cX2_areasWithin 35 = .ok (.goto (-28), 3) := by decide +kernel
theorem dX2_areasWithin_38 : decode cX2_areasWithin 38 = .ok (.iload_n 2, 1) := by decide +kernel
theorem dX2_areasWithin_39 : decode cX2_areasWithin 39 = .ok (.ireturn, 1) := by decide +kernel
theorem dX2_shareInOrder_0 : decode cX2_shareInOrder 0 = .ok (.iload_n 2, 1) := by decide +kernel
theorem dX2_shareInOrder_1 : decode cX2_shareInOrder 1 = .ok (.istore_n 3, 1) := by decide +kernel
theorem dX2_shareInOrder_2 : decode cX2_shareInOrder 2 = .ok (.aload_n 0, 1) := by decide +kernel
theorem dX2_shareInOrder_3 : decode cX2_shareInOrder 3 = .ok (.getfield 135, 3) := by decide +kernel
theorem dX2_shareInOrder_6 : decode cX2_shareInOrder 6 = .ok (.astore 4, 2) := by decide +kernel
theorem dX2_shareInOrder_8 : decode cX2_shareInOrder 8 = .ok (.aload 4, 2) := by decide +kernel
theorem dX2_shareInOrder_10 : decode cX2_shareInOrder 10 = .ok (.ifnull 53, 3) := by decide +kernel
theorem dX2_shareInOrder_13 : decode cX2_shareInOrder 13 = .ok (.aload 4, 2) := by decide +kernel
theorem dX2_shareInOrder_15 : decode cX2_shareInOrder 15 = .ok (.aload 4, 2) := by decide +kernel
theorem dX2_shareInOrder_17 : decode cX2_shareInOrder 17 = .ok (.getfield 154, 3) := by decide +kernel
theorem dX2_shareInOrder_20 : decode cX2_shareInOrder 20 = .ok (.iload_n 1, 1) := by decide +kernel
theorem dX2_shareInOrder_21 : decode cX2_shareInOrder 21 = .ok (.if_icmp .gt 20, 3) := by decide +kernel
theorem dX2_shareInOrder_24 : decode cX2_shareInOrder 24 = .ok (.aload 4, 2) := by decide +kernel
theorem dX2_shareInOrder_26 : decode cX2_shareInOrder 26 = .ok (.getfield 148, 3) := by decide +kernel
theorem dX2_shareInOrder_29 : decode cX2_shareInOrder 29 = .ok (.iload_n 3, 1) := by decide +kernel
theorem dX2_shareInOrder_30 : decode cX2_shareInOrder 30 = .ok (.if_icmp .gt 11, 3) := by decide +kernel
theorem dX2_shareInOrder_33 : decode cX2_shareInOrder 33 = .ok (.aload 4, 2) := by decide +kernel
theorem dX2_shareInOrder_35 : decode cX2_shareInOrder 35 = .ok (.getfield 148, 3) := by decide +kernel
theorem dX2_shareInOrder_38 : decode cX2_shareInOrder 38 = .ok (.goto 4, 3) := by decide +kernel
theorem dX2_shareInOrder_41 : decode cX2_shareInOrder 41 = .ok (.iconst 0, 1) := by decide +kernel
theorem dX2_shareInOrder_42 : decode cX2_shareInOrder 42 = .ok (.putfield 139, 3) := by decide +kernel
theorem dX2_shareInOrder_45 : decode cX2_shareInOrder 45 = .ok (.iload_n 3, 1) := by decide +kernel
theorem dX2_shareInOrder_46 : decode cX2_shareInOrder 46 = .ok (.aload 4, 2) := by decide +kernel
theorem dX2_shareInOrder_48 : decode cX2_shareInOrder 48 = .ok (.getfield 139, 3) := by decide +kernel
theorem dX2_shareInOrder_51 : decode cX2_shareInOrder 51 = .ok (.isub, 1) := by decide +kernel
theorem dX2_shareInOrder_52 : decode cX2_shareInOrder 52 = .ok (.istore_n 3, 1) := by decide +kernel
theorem dX2_shareInOrder_53 : decode cX2_shareInOrder 53 = .ok (.aload 4, 2) := by decide +kernel
theorem dX2_shareInOrder_55 : decode cX2_shareInOrder 55 = .ok (.getfield 151, 3) := by decide +kernel
theorem dX2_shareInOrder_58 : decode cX2_shareInOrder 58 = .ok (.astore 4, 2) := by decide +kernel
theorem dX2_shareInOrder_60 : decode cX2_shareInOrder 60 = .ok (.goto (-52), 3) := by decide +kernel
theorem dX2_shareInOrder_63 : decode cX2_shareInOrder 63 = .ok (.return_, 1) := by decide +kernel
set_option maxRecDepth 20000 in
theorem ggX2_shareFairly_X2_giveOneMore : GoodIn wsX2_shareFairly wsX2_giveOneMore := goodIn_r _ [10, 1, 5, 6, 4, 11, 12, 13, 14, 15, 16, 17, 18, 19, 20, 21, 22, 23, 24, 25, 26, 27, 28, 29, 30, 31, 32] (by decide +kernel) (by decide +kernel)
set_option maxRecDepth 20000 in
theorem gX2_shareFairly_X2_giveOneMore : GoodIn wsX2_shareFairly (va_wsS RX2 160 yX2_giveOneMore wsX2_giveOneMore) := goodIn_app (goodIn_of _ (by decide +kernel)) ggX2_shareFairly_X2_giveOneMore
theorem dX2_shareFairly_0 : decode cX2_shareFairly 0 = .ok (.iload_n 2, 1) := by decide +kernel
theorem dX2_shareFairly_1 : decode cX2_shareFairly 1 = .ok (.istore 4, 2) := by decide +kernel
theorem dX2_shareFairly_3 : decode cX2_shareFairly 3 = .ok (.aload_n 0, 1) := by decide +kernel
theorem dX2_shareFairly_4 : decode cX2_shareFairly 4 = .ok (.getfield 135, 3) := by decide +kernel
theorem dX2_shareFairly_7 : decode cX2_shareFairly 7 = .ok (.astore 5, 2) := by decide +kernel
theorem dX2_shareFairly_9 : decode cX2_shareFairly 9 = .ok (.aload 5, 2) := by decide +kernel
theorem dX2_shareFairly_11 : decode cX2_shareFairly 11 = .ok (.ifnull 77, 3) := by decide +kernel
theorem dX2_shareFairly_14 : decode cX2_shareFairly 14 = .ok (.aload 5, 2) := by decide +kernel
theorem dX2_shareFairly_16 : decode cX2_shareFairly 16 = .ok (.getfield 154, 3) := by decide +kernel
theorem dX2_shareFairly_19 : decode cX2_shareFairly 19 = .ok (.iload_n 1, 1) := by decide +kernel
theorem dX2_shareFairly_20 : decode cX2_shareFairly 20 = .ok (.if_icmp .gt 13, 3) := by decide +kernel
theorem dX2_shareFairly_23 : decode cX2_shareFairly 23 = .ok (.iload_n 2, 1) := by decide +kernel
theorem dX2_shareFairly_24 : decode cX2_shareFairly 24 = .ok (.aload 5, 2) := by decide +kernel
theorem dX2_shareFairly_26 : decode cX2_shareFairly 26 = .ok (.getfield 148, 3) := by decide +kernel
theorem dX2_shareFairly_29 : decode cX2_shareFairly 29 = .ok (.imul, 1) := by decide +kernel
theorem dX2_shareFairly_30 : decode cX2_shareFairly 30 = .ok (.goto 4, 3) := by decide +kernel
theorem dX2_shareFairly_33 : decode cX2_shareFairly 33 = .ok (.iconst 0, 1) := by decide +kernel
theorem dX2_shareFairly_34 : decode cX2_shareFairly 34 = .ok (.istore 6, 2) := by decide +kernel
theorem dX2_shareFairly_36 : decode cX2_shareFairly 36 = .ok (.aload 5, 2) := by decide +kernel
theorem dX2_shareFairly_38 : decode cX2_shareFairly 38 = .ok (.iload_n 3, 1) := by decide +kernel
theorem dX2_shareFairly_39 : decode cX2_shareFairly 39 = .ok (.ifCond .le 10, 3) := by decide +kernel
theorem dX2_shareFairly_42 : decode cX2_shareFairly 42 = .ok (.iload 6, 2) := by decide +kernel
theorem dX2_shareFairly_44 : decode cX2_shareFairly 44 = .ok (.iload_n 3, 1) := by decide +kernel
theorem dX2_shareFairly_45 : decode cX2_shareFairly 45 = .ok (.idiv, 1) := by decide +kernel
theorem dX2_shareFairly_46 : decode cX2_shareFairly 46 = .ok (.goto 4, 3) := by decide +kernel
theorem dX2_shareFairly_49 : decode cX2_shareFairly 49 = .ok (.iconst 0, 1) := by decide +kernel
theorem dX2_shareFairly_50 : decode cX2_shareFairly 50 = .ok (.putfield 139, 3) := by decide +kernel
theorem dX2_shareFairly_53 : decode cX2_shareFairly 53 = .ok (.aload 5, 2) := by decide +kernel
theorem dX2_shareFairly_55 : decode cX2_shareFairly 55 = .ok (.iload 6, 2) := by decide +kernel
theorem dX2_shareFairly_57 : decode cX2_shareFairly 57 = .ok (.aload 5, 2) := by decide +kernel
theorem dX2_shareFairly_59 : decode cX2_shareFairly 59 = .ok (.getfield 139, 3) := by decide +kernel
theorem dX2_shareFairly_62 : decode cX2_shareFairly 62 = .ok (.iload_n 3, 1) := by decide +kernel
theorem dX2_shareFairly_63 : decode cX2_shareFairly 63 = .ok (.imul, 1) := by decide +kernel
theorem dX2_shareFairly_64 : decode cX2_shareFairly 64 = .ok (.isub, 1) := by decide +kernel
theorem dX2_shareFairly_65 : decode cX2_shareFairly 65 = .ok (.putfield 157, 3) := by decide +kernel
theorem dX2_shareFairly_68 : decode cX2_shareFairly 68 = .ok (.iload 4, 2) := by decide +kernel
theorem dX2_shareFairly_70 : decode cX2_shareFairly 70 = .ok (.aload 5, 2) := by decide +kernel
theorem dX2_shareFairly_72 : decode cX2_shareFairly 72 = .ok (.getfield 139, 3) := by decide +kernel
theorem dX2_shareFairly_75 : decode cX2_shareFairly 75 = .ok (.isub, 1) := by decide +kernel
theorem dX2_shareFairly_76 : decode cX2_shareFairly 76 = .ok (.istore 4, 2) := by decide +kernel
theorem dX2_shareFairly_78 : decode cX2_shareFairly 78 = .ok (.aload 5, 2) := by decide +kernel
theorem dX2_shareFairly_80 : decode cX2_shareFairly 80 = .ok (.getfield 151, 3) := by decide +kernel
theorem dX2_shareFairly_83 : decode cX2_shareFairly 83 = .ok (.astore 5, 2) := by decide +kernel
theorem dX2_shareFairly_85 : decode cX2_shareFairly 85 = .ok (.goto (-76), 3) := by decide +kernel
theorem dX2_shareFairly_88 : decode cX2_shareFairly 88 = .ok (.iload 4, 2) := by decide +kernel
theorem dX2_shareFairly_90 : decode cX2_shareFairly 90 = .ok (.ifCond .le 13, 3) := by decide +kernel
theorem dX2_shareFairly_93 : decode cX2_shareFairly 93 = .ok (.aload_n 0, 1) := by decide +kernel
theorem dX2_shareFairly_94 : decode cX2_shareFairly 94 = .ok (.invokestatic 160, 3) := by decide +kernel
theorem dX2_shareFairly_97 : decode cX2_shareFairly 97 = .ok (.iinc 4 (-1), 3) := by decide +kernel
theorem dX2_shareFairly_100 : decode cX2_shareFairly 100 = .ok (.goto (-12), 3) := by decide +kernel
theorem dX2_shareFairly_103 : decode cX2_shareFairly 103 = .ok (.return_, 1) := by decide +kernel
theorem dX2_giveOneMore_0 : decode cX2_giveOneMore 0 = .ok (.aconst_null, 1) := by decide +kernel
theorem dX2_giveOneMore_1 : decode cX2_giveOneMore 1 = .ok (.astore_n 1, 1) := by decide +kernel
theorem dX2_giveOneMore_2 : decode cX2_giveOneMore 2 = .ok (.iconst 0, 1) := by decide +kernel
theorem dX2_giveOneMore_3 : decode cX2_giveOneMore 3 = .ok (.istore_n 2, 1) := by decide +kernel
theorem dX2_giveOneMore_4 : decode cX2_giveOneMore 4 = .ok (.aload_n 0, 1) := by decide +kernel
theorem dX2_giveOneMore_5 : decode cX2_giveOneMore 5 = .ok (.getfield 135, 3) := by decide +kernel
theorem dX2_giveOneMore_8 : decode cX2_giveOneMore 8 = .ok (.astore_n 3, 1) := by decide +kernel
theorem dX2_giveOneMore_9 : decode cX2_giveOneMore 9 = .ok (.aload_n 3, 1) := by decide +kernel
theorem dX2_giveOneMore_10 : decode cX2_giveOneMore 10 = .ok (.ifnull 26, 3) := by decide +kernel
theorem dX2_giveOneMore_13 : decode cX2_giveOneMore 13 = .ok (.aload_n 3, 1) := by decide +kernel
theorem dX2_giveOneMore_14 : decode cX2_giveOneMore 14 = .ok (.getfield 157, 3) := by decide +kernel
theorem dX2_giveOneMore_17 : decode cX2_giveOneMore 17 = .ok (.iload_n 2, 1) := by decide +kernel
theorem dX2_giveOneMore_18 : decode cX2_giveOneMore 18 = .ok (.if_icmp .le 10, 3) := by decide +kernel
theorem dX2_giveOneMore_21 : decode cX2_giveOneMore 21 = .ok (.aload_n 3, 1) := by decide +kernel
theorem dX2_giveOneMore_22 : decode cX2_giveOneMore 22 = .ok (.getfield 157, 3) := by decide +kernel
theorem dX2_giveOneMore_25 : decode cX2_giveOneMore 25 = .ok (.istore_n 2, 1) := by decide +kernel
theorem dX2_giveOneMore_26 : decode cX2_giveOneMore 26 = .ok (.aload_n 3, 1) := by decide +kernel
theorem dX2_giveOneMore_27 : decode cX2_giveOneMore 27 = .ok (.astore_n 1, 1) := by decide +kernel
theorem dX2_giveOneMore_28 : decode cX2_giveOneMore 28 = .ok (.aload_n 3, 1) := by decide +kernel
theorem dX2_giveOneMore_29 : decode cX2_giveOneMore 29 = .ok (.getfield 151, 3) := by decide +kernel
theorem dX2_giveOneMore_32 : decode cX2_giveOneMore 32 = .ok (.astore_n 3, 1) := by decide +kernel
theorem dX2_giveOneMore_33 : decode cX2_giveOneMore 33 = .ok (.goto (-24), 3) := by decide +kernel
theorem dX2_giveOneMore_36 : decode cX2_giveOneMore 36 = .ok (.aload_n 1, 1) := by decide +kernel
theorem dX2_giveOneMore_37 : decode cX2_giveOneMore 37 = .ok (.ifnull 18, 3) := by decide +kernel
theorem dX2_giveOneMore_40 : decode cX2_giveOneMore 40 = .ok (.aload_n 1, 1) := by decide +kernel
theorem dX2_giveOneMore_41 : decode cX2_giveOneMore 41 = .ok (.dup, 1) := by decide +kernel
theorem dX2_giveOneMore_42 : decode cX2_giveOneMore 42 = .ok (.getfield 139, 3) := by decide +kernel
theorem dX2_giveOneMore_45 : decode cX2_giveOneMore 45 = .ok (.iconst 1, 1) := by decide +kernel
theorem dX2_giveOneMore_46 : decode cX2_giveOneMore 46 = .ok (.iadd, 1) := by decide +kernel
theorem dX2_giveOneMore_47 : decode cX2_giveOneMore 47 = .ok (.putfield 139, 3) := by decide +kernel
theorem dX2_giveOneMore_50 : decode cX2_giveOneMore 50 = .ok (.aload_n 1, 1) := by decide +kernel
theorem dX2_giveOneMore_51 : decode cX2_giveOneMore 51 = .ok (.iconst 0, 1) := by decide +kernel
theorem dX2_giveOneMore_52 : decode cX2_giveOneMore 52 = .ok (.putfield 157, 3) := by decide +kernel
theorem dX2_giveOneMore_55 : decode cX2_giveOneMore 55 = .ok (.return_, 1) := by decide +kernel
theorem dX3_init_0 : decode cX3_init 0 = .ok (.aload_n 0, 1) := by decide +kernel
theorem dX3_init_1 : decode cX3_init 1 = .ok (.invokespecial 1, 3) := by decide +kernel
theorem dX3_init_4 : decode cX3_init 4 = .ok (.aload_n 0, 1) := by decide +kernel
theorem dX3_init_5 : decode cX3_init 5 = .ok (.iconst 0, 1) := by decide +kernel
theorem dX3_init_6 : decode cX3_init 6 = .ok (.putfield 7, 3) := by decide +kernel
theorem dX3_init_9 : decode cX3_init 9 = .ok (.aload_n 0, 1) := by decide +kernel
theorem dX3_init_10 : decode cX3_init 10 = .ok (.iconst 0, 1) := by decide +kernel
theorem dX3_init_11 : decode cX3_init 11 = .ok (.putfield 13, 3) := by decide +kernel
theorem dX3_init_14 : decode cX3_init 14 = .ok (.aload_n 0, 1) := by decide +kernel
theorem dX3_init_15 : decode cX3_init 15 = .ok (.iconst 0, 1) := by decide +kernel
theorem dX3_init_16 : decode cX3_init 16 = .ok (.putfield 16, 3) := by decide +kernel
theorem dX3_init_19 : decode cX3_init 19 = .ok (.aload_n 0, 1) := by decide +kernel
theorem dX3_init_20 : decode cX3_init 20 = .ok (.iconst 0, 1) := by decide +kernel
theorem dX3_init_21 : decode cX3_init 21 = .ok (.putfield 20, 3) := by decide +kernel
theorem dX3_init_24 : decode cX3_init 24 = .ok (.aload_n 0, 1) := by decide +kernel
theorem dX3_init_25 : decode cX3_init 25 = .ok (.iconst 0, 1) := by decide +kernel
theorem dX3_init_26 : decode cX3_init 26 = .ok (.putfield 23, 3) := by decide +kernel
theorem dX3_init_29 : decode cX3_init 29 = .ok (.return_, 1) := by decide +kernel
theorem dX3_becomeAs_0 : decode cX3_becomeAs 0 = .ok (.aload_n 0, 1) := by decide +kernel
theorem dX3_becomeAs_1 : decode cX3_becomeAs 1 = .ok (.aload_n 1, 1) := by decide +kernel
theorem dX3_becomeAs_2 : decode cX3_becomeAs 2 = .ok (.getfield 7, 3) := by decide +kernel
theorem dX3_becomeAs_5 : decode cX3_becomeAs 5 = .ok (.putfield 7, 3) := by decide +kernel
theorem dX3_becomeAs_8 : decode cX3_becomeAs 8 = .ok (.aload_n 0, 1) := by decide +kernel
theorem dX3_becomeAs_9 : decode cX3_becomeAs 9 = .ok (.aload_n 1, 1) := by decide +kernel
theorem dX3_becomeAs_10 : decode cX3_becomeAs 10 = .ok (.getfield 13, 3) := by decide +kernel
theorem dX3_becomeAs_13 : decode cX3_becomeAs 13 = .ok (.putfield 13, 3) := by decide +kernel
theorem dX3_becomeAs_16 : decode cX3_becomeAs 16 = .ok (.aload_n 0, 1) := by decide +kernel
theorem dX3_becomeAs_17 : decode cX3_becomeAs 17 = .ok (.aload_n 1, 1) := by decide +kernel
theorem dX3_becomeAs_18 : decode cX3_becomeAs 18 = .ok (.getfield 16, 3) := by decide +kernel
theorem dX3_becomeAs_21 : decode cX3_becomeAs 21 = .ok (.putfield 16, 3) := by decide +kernel
theorem dX3_becomeAs_24 : decode cX3_becomeAs 24 = .ok (.aload_n 0, 1) := by decide +kernel
theorem dX3_becomeAs_25 : decode cX3_becomeAs 25 = .ok (.aload_n 1, 1) := by decide +kernel
theorem dX3_becomeAs_26 : decode cX3_becomeAs 26 = .ok (.getfield 20, 3) := by decide +kernel
theorem dX3_becomeAs_29 : decode cX3_becomeAs 29 = .ok (.putfield 20, 3) := by decide +kernel
theorem dX3_becomeAs_32 : decode cX3_becomeAs 32 = .ok (.aload_n 0, 1) := by decide +kernel
theorem dX3_becomeAs_33 : decode cX3_becomeAs 33 = .ok (.aload_n 1, 1) := by decide +kernel
theorem dX3_becomeAs_34 : decode cX3_becomeAs 34 = .ok (.getfield 23, 3) := by decide +kernel
theorem dX3_becomeAs_37 : decode cX3_becomeAs 37 = .ok (.putfield 23, 3) := by decide +kernel
theorem dX3_becomeAs_40 : decode cX3_becomeAs 40 = .ok (.return_, 1) := by decide +kernel
theorem dX4_init_0 : decode cX4_init 0 = .ok (.aload_n 0, 1) := by decide +kernel
theorem dX4_init_1 : decode cX4_init 1 = .ok (.invokespecial 1, 3) := by decide +kernel
theorem dX4_init_4 : decode cX4_init 4 = .ok (.aload_n 0, 1) := by decide +kernel
theorem dX4_init_5 : decode cX4_init 5 = .ok (.iconst 0, 1) := by decide +kernel
theorem dX4_init_6 : decode cX4_init 6 = .ok (.putfield 7, 3) := by decide +kernel
theorem dX4_init_9 : decode cX4_init 9 = .ok (.aload_n 0, 1) := by decide +kernel
theorem dX4_init_10 : decode cX4_init 10 = .ok (.iconst 0, 1) := by decide +kernel
theorem dX4_init_11 : decode cX4_init 11 = .ok (.putfield 13, 3) := by decide +kernel
theorem dX4_init_14 : decode cX4_init 14 = .ok (.aload_n 0, 1) := by decide +kernel
theorem dX4_init_15 : decode cX4_init 15 = .ok (.iconst 0, 1) := by decide +kernel
theorem dX4_init_16 : decode cX4_init 16 = .ok (.putfield 16, 3) := by decide +kernel
theorem dX4_init_19 : decode cX4_init 19 = .ok (.aload_n 0, 1) := by decide +kernel
theorem dX4_init_20 : decode cX4_init 20 = .ok (.iconst 0, 1) := by decide +kernel
theorem dX4_init_21 : decode cX4_init 21 = .ok (.putfield 19, 3) := by decide +kernel
theorem dX4_init_24 : decode cX4_init 24 = .ok (.return_, 1) := by decide +kernel
theorem dX4_clear_0 : decode cX4_clear 0 = .ok (.aload_n 0, 1) := by decide +kernel
theorem dX4_clear_1 : decode cX4_clear 1 = .ok (.iconst 0, 1) := by decide +kernel
theorem dX4_clear_2 : decode cX4_clear 2 = .ok (.putfield 7, 3) := by decide +kernel
theorem dX4_clear_5 : decode cX4_clear 5 = .ok (.aload_n 0, 1) := by decide +kernel
theorem dX4_clear_6 : decode cX4_clear 6 = .ok (.iconst 0, 1) := by decide +kernel
theorem dX4_clear_7 : decode cX4_clear 7 = .ok (.putfield 13, 3) := by decide +kernel
theorem dX4_clear_10 : decode cX4_clear 10 = .ok (.aload_n 0, 1) := by decide +kernel
theorem dX4_clear_11 : decode cX4_clear 11 = .ok (.iconst 0, 1) := by decide +kernel
theorem dX4_clear_12 : decode cX4_clear 12 = .ok (.putfield 16, 3) := by decide +kernel
theorem dX4_clear_15 : decode cX4_clear 15 = .ok (.aload_n 0, 1) := by decide +kernel
theorem dX4_clear_16 : decode cX4_clear 16 = .ok (.iconst 0, 1) := by decide +kernel
theorem dX4_clear_17 : decode cX4_clear 17 = .ok (.putfield 19, 3) := by decide +kernel
theorem dX4_clear_20 : decode cX4_clear 20 = .ok (.return_, 1) := by decide +kernel
theorem dX4_addAll_0 : decode cX4_addAll 0 = .ok (.aload_n 0, 1) := by decide +kernel
theorem dX4_addAll_1 : decode cX4_addAll 1 = .ok (.dup, 1) := by decide +kernel
theorem dX4_addAll_2 : decode cX4_addAll 2 = .ok (.getfield 7, 3) := by decide +kernel
theorem dX4_addAll_5 : decode cX4_addAll 5 = .ok (.aload_n 1, 1) := by decide +kernel
theorem dX4_addAll_6 : decode cX4_addAll 6 = .ok (.getfield 7, 3) := by decide +kernel
theorem dX4_addAll_9 : decode cX4_addAll 9 = .ok (.iadd, 1) := by decide +kernel
theorem dX4_addAll_10 : decode cX4_addAll 10 = .ok (.putfield 7, 3) := by decide +kernel
theorem dX4_addAll_13 : decode cX4_addAll 13 = .ok (.aload_n 0, 1) := by decide +kernel
theorem dX4_addAll_14 : decode cX4_addAll 14 = .ok (.dup, 1) := by decide +kernel
theorem dX4_addAll_15 : decode cX4_addAll 15 = .ok (.getfield 13, 3) := by decide +kernel
theorem dX4_addAll_18 : decode cX4_addAll 18 = .ok (.aload_n 1, 1) := by decide +kernel
theorem dX4_addAll_19 : decode cX4_addAll 19 = .ok (.getfield 13, 3) := by decide +kernel
theorem dX4_addAll_22 : decode cX4_addAll 22 = .ok (.iadd, 1) := by decide +kernel
theorem dX4_addAll_23 : decode cX4_addAll 23 = .ok (.putfield 13, 3) := by decide +kernel
theorem dX4_addAll_26 : decode cX4_addAll 26 = .ok (.aload_n 0, 1) := by decide +kernel
theorem dX4_addAll_27 : decode cX4_addAll 27 = .ok (.dup, 1) := by decide +kernel
theorem dX4_addAll_28 : decode cX4_addAll 28 = .ok (.getfield 16, 3) := by decide +kernel
theorem dX4_addAll_31 : decode cX4_addAll 31 = .ok (.aload_n 1, 1) := by decide +kernel
theorem dX4_addAll_32 : decode cX4_addAll 32 = .ok (.getfield 16, 3) := by decide +kernel
theorem dX4_addAll_35 : decode cX4_addAll 35 = .ok (.iadd, 1) := by decide +kernel
theorem dX4_addAll_36 : decode cX4_addAll 36 = .ok (.putfield 16, 3) := by decide +kernel
theorem dX4_addAll_39 : decode cX4_addAll 39 = .ok (.aload_n 0, 1) := by decide +kernel
theorem dX4_addAll_40 : decode cX4_addAll 40 = .ok (.dup, 1) := by decide +kernel
theorem dX4_addAll_41 : decode cX4_addAll 41 = .ok (.getfield 19, 3) := by decide +kernel
theorem dX4_addAll_44 : decode cX4_addAll 44 = .ok (.aload_n 1, 1) := by decide +kernel
theorem dX4_addAll_45 : decode cX4_addAll 45 = .ok (.getfield 19, 3) := by decide +kernel
theorem dX4_addAll_48 : decode cX4_addAll 48 = .ok (.iadd, 1) := by decide +kernel
theorem dX4_addAll_49 : decode cX4_addAll 49 = .ok (.putfield 19, 3) := by decide +kernel
theorem dX4_addAll_52 : decode cX4_addAll 52 = .ok (.return_, 1) := by decide +kernel
set_option maxRecDepth 20000 in
theorem ggX5_init_X3_init : GoodIn wsX5_init wsX3_init := goodIn_r _ [18, 19, 2, 3, 20, 21, 22, 23, 24, 25, 26, 27, 28, 29] (by decide +kernel) (by decide +kernel)
set_option maxRecDepth 20000 in
theorem gX5_init_X3_init_n11 : GoodIn wsX5_init (wsX3_init) := ggX5_init_X3_init
theorem dX5_init_0 : decode cX5_init 0 = .ok (.aload_n 0, 1) := by decide +kernel
theorem dX5_init_1 : decode cX5_init 1 = .ok (.invokespecial 3, 3) := by decide +kernel
theorem dX5_init_4 : decode cX5_init 4 = .ok (.aload_n 0, 1) := by decide +kernel
theorem dX5_init_5 : decode cX5_init 5 = .ok (.new 9, 3) := by decide +kernel
theorem dX5_init_8 : decode cX5_init 8 = .ok (.dup, 1) := by decide +kernel
theorem dX5_init_9 : decode cX5_init 9 = .ok (.invokespecial 11, 3) := by decide +kernel
theorem dX5_init_12 : decode cX5_init 12 = .ok (.putfield 12, 3) := by decide +kernel
theorem dX5_init_15 : decode cX5_init 15 = .ok (.aload_n 0, 1) := by decide +kernel
theorem dX5_init_16 : decode cX5_init 16 = .ok (.new 9, 3) := by decide +kernel
theorem dX5_init_19 : decode cX5_init 19 = .ok (.dup, 1) := by decide +kernel
theorem dX5_init_20 : decode cX5_init 20 = .ok (.invokespecial 11, 3) := by decide +kernel
theorem dX5_init_23 : decode cX5_init 23 = .ok (.putfield 18, 3) := by decide +kernel
theorem dX5_init_26 : decode cX5_init 26 = .ok (.aload_n 0, 1) := by decide +kernel
theorem dX5_init_27 : decode cX5_init 27 = .ok (.iconst 0, 1) := by decide +kernel
theorem dX5_init_28 : decode cX5_init 28 = .ok (.putfield 21, 3) := by decide +kernel
theorem dX5_init_31 : decode cX5_init 31 = .ok (.aload_n 0, 1) := by decide +kernel
theorem dX5_init_32 : decode cX5_init 32 = .ok (.bipush 100, 2) := by decide +kernel
theorem dX5_init_34 : decode cX5_init 34 = .ok (.putfield 25, 3) := by decide +kernel
theorem dX5_init_37 : decode cX5_init 37 = .ok (.aload_n 0, 1) := by decide +kernel
theorem dX5_init_38 : decode cX5_init 38 = .ok (.bipush 50, 2) := by decide +kernel
theorem dX5_init_40 : decode cX5_init 40 = .ok (.putfield 28, 3) := by decide +kernel
theorem dX5_init_43 : decode cX5_init 43 = .ok (.aload_n 0, 1) := by decide +kernel
theorem dX5_init_44 : decode cX5_init 44 = .ok (.iconst 0, 1) := by decide +kernel
theorem dX5_init_45 : decode cX5_init 45 = .ok (.putfield 31, 3) := by decide +kernel
theorem dX5_init_48 : decode cX5_init 48 = .ok (.aload_n 0, 1) := by decide +kernel
theorem dX5_init_49 : decode cX5_init 49 = .ok (.iconst (-1), 1) := by decide +kernel
theorem dX5_init_50 : decode cX5_init 50 = .ok (.putfield 34, 3) := by decide +kernel
theorem dX5_init_53 : decode cX5_init 53 = .ok (.aload_n 0, 1) := by decide +kernel
theorem dX5_init_54 : decode cX5_init 54 = .ok (.aconst_null, 1) := by decide +kernel
theorem dX5_init_55 : decode cX5_init 55 = .ok (.putfield 37, 3) := by decide +kernel
theorem dX5_init_58 : decode cX5_init 58 = .ok (.aload_n 0, 1) := by decide +kernel
theorem dX5_init_59 : decode cX5_init 59 = .ok (.iload_n 1, 1) := by decide +kernel
theorem dX5_init_60 : decode cX5_init 60 = .ok (.putfield 41, 3) := by decide +kernel
theorem dX5_init_63 : decode cX5_init 63 = .ok (.aload_n 0, 1) := by decide +kernel
theorem dX5_init_64 : decode cX5_init 64 = .ok (.aload_n 2, 1) := by decide +kernel
theorem dX5_init_65 : decode cX5_init 65 = .ok (.putfield 44, 3) := by decide +kernel
theorem dX5_init_68 : decode cX5_init 68 = .ok (.return_, 1) := by decide +kernel
theorem dX5_roomIf_0 : decode cX5_roomIf 0 = .ok (.iload_n 1, 1) := by decide +kernel
theorem dX5_roomIf_1 : decode cX5_roomIf 1 = .ok (.ifCond .eq 7, 3) := by decide +kernel
theorem dX5_roomIf_4 : decode cX5_roomIf 4 = .ok (.iconst 0, 1) := by decide +kernel
theorem dX5_roomIf_5 : decode cX5_roomIf 5 = .ok (.goto 12, 3) := by decide +kernel
theorem dX5_roomIf_8 : decode cX5_roomIf 8 = .ok (.aload_n 0, 1) := by decide +kernel
theorem dX5_roomIf_9 : decode cX5_roomIf 9 = .ok (.getfield 25, 3) := by decide +kernel
theorem dX5_roomIf_12 : decode cX5_roomIf 12 = .ok (.aload_n 0, 1) := by decide +kernel
theorem dX5_roomIf_13 : decode cX5_roomIf 13 = .ok (.getfield 31, 3) := by decide +kernel
theorem dX5_roomIf_16 : decode cX5_roomIf 16 = .ok (.isub, 1) := by decide +kernel
theorem dX5_roomIf_17 : decode cX5_roomIf 17 = .ok (.ireturn, 1) := by decide +kernel
theorem dX5_isBadYearWith_0 : decode cX5_isBadYearWith 0 = .ok (.iload_n 1, 1) := by decide +kernel
theorem dX5_isBadYearWith_1 : decode cX5_isBadYearWith 1 = .ok (.aload_n 0, 1) := by decide +kernel
theorem dX5_isBadYearWith_2 : decode cX5_isBadYearWith 2 = .ok (.getfield 25, 3) := by decide +kernel
theorem dX5_isBadYearWith_5 : decode cX5_isBadYearWith 5 = .ok (.iconst 2, 1) := by decide +kernel
theorem dX5_isBadYearWith_6 : decode cX5_isBadYearWith 6 = .ok (.idiv, 1) := by decide +kernel
theorem dX5_isBadYearWith_7 : decode cX5_isBadYearWith 7 = .ok (.if_icmp .ge 7, 3) := by decide +kernel
theorem dX5_isBadYearWith_10 : decode cX5_isBadYearWith 10 = .ok (.iconst 1, 1) := by decide +kernel
theorem dX5_isBadYearWith_11 : decode cX5_isBadYearWith 11 = .ok (.goto 4, 3) := by decide +kernel
theorem dX5_isBadYearWith_14 : decode cX5_isBadYearWith 14 = .ok (.iconst 0, 1) := by decide +kernel
theorem dX5_isBadYearWith_15 : decode cX5_isBadYearWith 15 = .ok (.ireturn, 1) := by decide +kernel
set_option maxRecDepth 20000 in
theorem ggX5_putInOrder_X0_isAhead : GoodIn wsX5_putInOrder wsX0_isAhead := goodIn_r _ [7, 8, 9, 10, 11, 12, 6, 13, 14, 15, 16, 39, 40, 41, 42, 43, 44, 27, 28, 29, 30, 31, 32, 33, 34, 35, 36, 37, 38] (by decide +kernel) (by decide +kernel)
set_option maxRecDepth 20000 in
theorem gX5_putInOrder_X0_isAhead : GoodIn wsX5_putInOrder (wsV RX5 48 RX0 yX0_isAhead wsX0_isAhead) := goodIn_app (goodIn_of _ (by decide +kernel)) ggX5_putInOrder_X0_isAhead
theorem dX5_putInOrder_0 : decode cX5_putInOrder 0 = .ok (.aconst_null, 1) := by decide +kernel
theorem dX5_putInOrder_1 : decode cX5_putInOrder 1 = .ok (.astore_n 3, 1) := by decide +kernel
theorem dX5_putInOrder_2 : decode cX5_putInOrder 2 = .ok (.aload_n 0, 1) := by decide +kernel
theorem dX5_putInOrder_3 : decode cX5_putInOrder 3 = .ok (.getfield 37, 3) := by decide +kernel
theorem dX5_putInOrder_6 : decode cX5_putInOrder 6 = .ok (.astore 4, 2) := by decide +kernel
theorem dX5_putInOrder_8 : decode cX5_putInOrder 8 = .ok (.aload 4, 2) := by decide +kernel
theorem dX5_putInOrder_10 : decode cX5_putInOrder 10 = .ok (.ifnull 26, 3) := by decide +kernel
theorem dX5_putInOrder_13 : decode cX5_putInOrder 13 = .ok (.aload_n 2, 1) := by decide +kernel
theorem dX5_putInOrder_14 : decode cX5_putInOrder 14 = .ok (.aload_n 1, 1) := by decide +kernel
theorem dX5_putInOrder_15 : decode cX5_putInOrder 15 = .ok (.aload 4, 2) := by decide +kernel
theorem dX5_putInOrder_17 : decode cX5_putInOrder 17 = .ok (.invokevirtual 48, 3) := by decide +kernel
theorem dX5_putInOrder_20 : decode cX5_putInOrder 20 = .ok (.ifCond .ne 16, 3) := by decide +kernel
theorem dX5_putInOrder_23 : decode cX5_putInOrder 23 = .ok (.aload 4, 2) := by decide +kernel
theorem dX5_putInOrder_25 : decode cX5_putInOrder 25 = .ok (.astore_n 3, 1) := by decide +kernel
theorem dX5_putInOrder_26 : decode cX5_putInOrder 26 = .ok (.aload 4, 2) := by decide +kernel
theorem dX5_putInOrder_28 : decode cX5_putInOrder 28 = .ok (.getfield 54, 3) := by decide +kernel
theorem dX5_putInOrder_31 : decode cX5_putInOrder 31 = .ok (.astore 4, 2) := by decide +kernel
theorem dX5_putInOrder_33 : decode cX5_putInOrder 33 = .ok (.goto (-25), 3) := by decide +kernel
theorem dX5_putInOrder_36 : decode cX5_putInOrder 36 = .ok (.aload_n 1, 1) := by decide +kernel
theorem dX5_putInOrder_37 : decode cX5_putInOrder 37 = .ok (.aload 4, 2) := by decide +kernel
theorem dX5_putInOrder_39 : decode cX5_putInOrder 39 = .ok (.putfield 54, 3) := by decide +kernel
theorem dX5_putInOrder_42 : decode cX5_putInOrder 42 = .ok (.aload_n 3, 1) := by decide +kernel
theorem dX5_putInOrder_43 : decode cX5_putInOrder 43 = .ok (.ifnonnull 11, 3) := by decide +kernel
theorem dX5_putInOrder_46 : decode cX5_putInOrder 46 = .ok (.aload_n 0, 1) := by decide +kernel
theorem dX5_putInOrder_47 : decode cX5_putInOrder 47 = .ok (.aload_n 1, 1) := by decide +kernel
theorem dX5_putInOrder_48 : decode cX5_putInOrder 48 = .ok (.putfield 37, 3) := by decide +kernel
theorem dX5_putInOrder_51 : decode cX5_putInOrder 51 = .ok (.goto 8, 3) := by decide +kernel
theorem dX5_putInOrder_54 : decode cX5_putInOrder 54 = .ok (.aload_n 3, 1) := by decide +kernel
theorem dX5_putInOrder_55 : decode cX5_putInOrder 55 = .ok (.aload_n 1, 1) := by decide +kernel
theorem dX5_putInOrder_56 : decode cX5_putInOrder 56 = .ok (.putfield 54, 3) := by decide +kernel
theorem dX5_putInOrder_59 : decode cX5_putInOrder 59 = .ok (.return_, 1) := by decide +kernel
theorem dX6_init_0 : decode cX6_init 0 = .ok (.aload_n 0, 1) := by decide +kernel
theorem dX6_init_1 : decode cX6_init 1 = .ok (.invokespecial 3, 3) := by decide +kernel
theorem dX6_init_4 : decode cX6_init 4 = .ok (.aload_n 0, 1) := by decide +kernel
theorem dX6_init_5 : decode cX6_init 5 = .ok (.sipush 300, 3) := by decide +kernel
theorem dX6_init_8 : decode cX6_init 8 = .ok (.newarray .byte, 2) := by decide +kernel
theorem dX6_init_10 : decode cX6_init 10 = .ok (.putfield 9, 3) := by decide +kernel
theorem dX6_init_13 : decode cX6_init 13 = .ok (.aload_n 0, 1) := by decide +kernel
theorem dX6_init_14 : decode cX6_init 14 = .ok (.iconst 0, 1) := by decide +kernel
theorem dX6_init_15 : decode cX6_init 15 = .ok (.putfield 15, 3) := by decide +kernel
theorem dX6_init_18 : decode cX6_init 18 = .ok (.aload_n 0, 1) := by decide +kernel
theorem dX6_init_19 : decode cX6_init 19 = .ok (.iconst 0, 1) := by decide +kernel
theorem dX6_init_20 : decode cX6_init 20 = .ok (.putfield 19, 3) := by decide +kernel
theorem dX6_init_23 : decode cX6_init 23 = .ok (.aload_n 0, 1) := by decide +kernel
theorem dX6_init_24 : decode cX6_init 24 = .ok (.iconst 0, 1) := by decide +kernel
theorem dX6_init_25 : decode cX6_init 25 = .ok (.putfield 22, 3) := by decide +kernel
theorem dX6_init_28 : decode cX6_init 28 = .ok (.aload_n 0, 1) := by decide +kernel
theorem dX6_init_29 : decode cX6_init 29 = .ok (.iconst 0, 1) := by decide +kernel
theorem dX6_init_30 : decode cX6_init 30 = .ok (.putfield 25, 3) := by decide +kernel
theorem dX6_init_33 : decode cX6_init 33 = .ok (.aload_n 0, 1) := by decide +kernel
theorem dX6_init_34 : decode cX6_init 34 = .ok (.iconst 0, 1) := by decide +kernel
theorem dX6_init_35 : decode cX6_init 35 = .ok (.putfield 28, 3) := by decide +kernel
theorem dX6_init_38 : decode cX6_init 38 = .ok (.return_, 1) := by decide +kernel
set_option maxRecDepth 20000 in
theorem ggX6_putFour_X6_putByte : GoodIn wsX6_putFour wsX6_putByte := goodIn_r _ [5, 6, 7, 8, 9, 10, 11, 12, 13] (by decide +kernel) (by decide +kernel)
set_option maxRecDepth 20000 in
theorem gX6_putFour_X6_putByte : GoodIn wsX6_putFour (wsV RX6 31 RX6 yX6_putByte wsX6_putByte) := goodIn_app (goodIn_of _ (by decide +kernel)) ggX6_putFour_X6_putByte
theorem dX6_putFour_0 : decode cX6_putFour 0 = .ok (.aload_n 0, 1) := by decide +kernel
theorem dX6_putFour_1 : decode cX6_putFour 1 = .ok (.iload_n 1, 1) := by decide +kernel
theorem dX6_putFour_2 : decode cX6_putFour 2 = .ok (.bipush 24, 2) := by decide +kernel
theorem dX6_putFour_4 : decode cX6_putFour 4 = .ok (.ishr, 1) := by decide +kernel
theorem dX6_putFour_5 : decode cX6_putFour 5 = .ok (.invokevirtual 31, 3) := by decide +kernel
theorem dX6_putFour_8 : decode cX6_putFour 8 = .ok (.aload_n 0, 1) := by decide +kernel
theorem dX6_putFour_9 : decode cX6_putFour 9 = .ok (.iload_n 1, 1) := by decide +kernel
theorem dX6_putFour_10 : decode cX6_putFour 10 = .ok (.bipush 16, 2) := by decide +kernel
theorem dX6_putFour_12 : decode cX6_putFour 12 = .ok (.ishr, 1) := by decide +kernel
theorem dX6_putFour_13 : decode cX6_putFour 13 = .ok (.invokevirtual 31, 3) := by decide +kernel
theorem dX6_putFour_16 : decode cX6_putFour 16 = .ok (.aload_n 0, 1) := by decide +kernel
theorem dX6_putFour_17 : decode cX6_putFour 17 = .ok (.iload_n 1, 1) := by decide +kernel
theorem dX6_putFour_18 : decode cX6_putFour 18 = .ok (.bipush 8, 2) := by decide +kernel
theorem dX6_putFour_20 : decode cX6_putFour 20 = .ok (.ishr, 1) := by decide +kernel
theorem dX6_putFour_21 : decode cX6_putFour 21 = .ok (.invokevirtual 31, 3) := by decide +kernel
theorem dX6_putFour_24 : decode cX6_putFour 24 = .ok (.aload_n 0, 1) := by decide +kernel
theorem dX6_putFour_25 : decode cX6_putFour 25 = .ok (.iload_n 1, 1) := by decide +kernel
theorem dX6_putFour_26 : decode cX6_putFour 26 = .ok (.invokevirtual 31, 3) := by decide +kernel
theorem dX6_putFour_29 : decode cX6_putFour 29 = .ok (.return_, 1) := by decide +kernel
theorem dX6_putByte_0 : decode cX6_putByte 0 = .ok (.aload_n 0, 1) := by decide +kernel
theorem dX6_putByte_1 : decode cX6_putByte 1 = .ok (.getfield 15, 3) := by decide +kernel
theorem dX6_putByte_4 : decode cX6_putByte 4 = .ok (.ifCond .lt 36, 3) := by decide +kernel
theorem dX6_putByte_7 : decode cX6_putByte 7 = .ok (.aload_n 0, 1) := by decide +kernel
theorem dX6_putByte_8 : decode cX6_putByte 8 = .ok (.getfield 15, 3) := by decide +kernel
theorem dX6_putByte_11 : decode cX6_putByte 11 = .ok (.aload_n 0, 1) := by decide +kernel
theorem dX6_putByte_12 : decode cX6_putByte 12 = .ok (.getfield 9, 3) := by decide +kernel
theorem dX6_putByte_15 : decode cX6_putByte 15 = .ok (.arraylength, 1) := by decide +kernel
theorem dX6_putByte_16 : decode cX6_putByte 16 = .ok (.if_icmp .ge 24, 3) := by decide +kernel
theorem dX6_putByte_19 : decode cX6_putByte 19 = .ok (.aload_n 0, 1) := by decide +kernel
theorem dX6_putByte_20 : decode cX6_putByte 20 = .ok (.getfield 9, 3) := by decide +kernel
theorem dX6_putByte_23 : decode cX6_putByte 23 = .ok (.aload_n 0, 1) := by decide +kernel
theorem dX6_putByte_24 : decode cX6_putByte 24 = .ok (.getfield 15, 3) := by decide +kernel
theorem dX6_putByte_27 : decode cX6_putByte 27 = .ok (.iload_n 1, 1) := by decide +kernel
theorem dX6_putByte_28 : decode cX6_putByte 28 = .ok (.i2b, 1) := by decide +kernel
theorem dX6_putByte_29 : decode cX6_putByte 29 = .ok (.bastore, 1) := by decide +kernel
theorem dX6_putByte_30 : decode cX6_putByte 30 = .ok (.aload_n 0, 1) := by decide +kernel
theorem dX6_putByte_31 : decode cX6_putByte 31 = .ok (.dup, 1) := by decide +kernel
theorem dX6_putByte_32 : decode cX6_putByte 32 = .ok (.getfield 15, 3) := by decide +kernel
theorem dX6_putByte_35 : decode cX6_putByte 35 = .ok (.iconst 1, 1) := by decide +kernel
theorem dX6_putByte_36 : decode cX6_putByte 36 = .ok (.iadd, 1) := by decide +kernel
theorem dX6_putByte_37 : decode cX6_putByte 37 = .ok (.putfield 15, 3) := by decide +kernel
theorem dX6_putByte_40 : decode cX6_putByte 40 = .ok (.return_, 1) := by decide +kernel
set_option maxRecDepth 20000 in
theorem ggX6_faultReading_X0_clear : GoodIn wsX6_faultReading wsX0_clear := goodIn_r _ [10, 11, 12, 13, 14, 15, 114, 115, 116, 117, 118, 119] (by decide +kernel) (by decide +kernel)
set_option maxRecDepth 20000 in
theorem gX6_faultReading_X0_clear : GoodIn wsX6_faultReading (wsV RX6 35 RX0 yX0_clear wsX0_clear) := goodIn_app (goodIn_of _ (by decide +kernel)) ggX6_faultReading_X0_clear
set_option maxRecDepth 20000 in
theorem ggX6_faultReading_X6_nextToken : GoodIn wsX6_faultReading wsX6_nextToken := goodIn_r _ [20, 2, 5, 1, 3, 21, 22, 23, 19, 24, 25, 26, 27, 28, 29, 30, 31, 32, 33, 34, 108, 109, 110, 111, 112, 113] (by decide +kernel) (by decide +kernel)
set_option maxRecDepth 20000 in
theorem gX6_faultReading_X6_nextToken : GoodIn wsX6_faultReading (wsV RX6 40 RX6 yX6_nextToken wsX6_nextToken) := goodIn_app (goodIn_of _ (by decide +kernel)) ggX6_faultReading_X6_nextToken
set_option maxRecDepth 20000 in
theorem ggX6_faultReading_X6_readStatement : GoodIn wsX6_faultReading wsX6_readStatement := goodIn_r _ [38, 39, 40, 41, 3, 42, 43, 44, 19, 45, 2, 5, 46, 47, 48, 49, 50, 51, 52, 53, 54, 55, 56, 57, 21, 22, 23, 24, 25, 58, 59, 60, 61, 62, 63, 64, 65, 66, 67, 68, 69, 70, 71, 72, 73, 74, 75, 76, 77, 78, 79, 80, 81, 82, 83, 84, 85, 86, 87, 88, 89, 90, 91, 92, 93, 94, 16, 17, 18, 20, 1, 26, 27, 28, 29, 30, 31, 32, 33, 34, 95, 96, 97, 98, 99, 100, 101, 9, 102, 11, 103, 104, 105, 106, 107, 114, 115, 116, 117, 118, 119, 108, 109, 110, 111, 112, 113] (by decide +kernel) (by decide +kernel)
set_option maxRecDepth 20000 in
theorem gX6_faultReading_X6_readStatement : GoodIn wsX6_faultReading (wsV RX6 46 RX6 yX6_readStatement wsX6_readStatement) := goodIn_app (goodIn_of _ (by decide +kernel)) ggX6_faultReading_X6_readStatement
theorem dX6_faultReading_0 : decode cX6_faultReading 0 = .ok (.aload_n 0, 1) := by decide +kernel
theorem dX6_faultReading_1 : decode cX6_faultReading 1 = .ok (.iload_n 2, 1) := by decide +kernel
theorem dX6_faultReading_2 : decode cX6_faultReading 2 = .ok (.putfield 19, 3) := by decide +kernel
theorem dX6_faultReading_5 : decode cX6_faultReading 5 = .ok (.aload_n 0, 1) := by decide +kernel
theorem dX6_faultReading_6 : decode cX6_faultReading 6 = .ok (.iconst 0, 1) := by decide +kernel
theorem dX6_faultReading_7 : decode cX6_faultReading 7 = .ok (.putfield 28, 3) := by decide +kernel
theorem dX6_faultReading_10 : decode cX6_faultReading 10 = .ok (.aload_n 1, 1) := by decide +kernel
theorem dX6_faultReading_11 : decode cX6_faultReading 11 = .ok (.invokevirtual 35, 3) := by decide +kernel
theorem dX6_faultReading_14 : decode cX6_faultReading 14 = .ok (.aload_n 0, 1) := by decide +kernel
theorem dX6_faultReading_15 : decode cX6_faultReading 15 = .ok (.invokevirtual 40, 3) := by decide +kernel
theorem dX6_faultReading_18 : decode cX6_faultReading 18 = .ok (.aload_n 0, 1) := by decide +kernel
theorem dX6_faultReading_19 : decode cX6_faultReading 19 = .ok (.getfield 22, 3) := by decide +kernel
theorem dX6_faultReading_22 : decode cX6_faultReading 22 = .ok (.ifCond .eq 42, 3) := by decide +kernel
theorem dX6_faultReading_25 : decode cX6_faultReading 25 = .ok (.aload_n 1, 1) := by decide +kernel
theorem dX6_faultReading_26 : decode cX6_faultReading 26 = .ok (.getfield 43, 3) := by decide +kernel
theorem dX6_faultReading_29 : decode cX6_faultReading 29 = .ok (.bipush 10, 2) := by decide +kernel
theorem dX6_faultReading_31 : decode cX6_faultReading 31 = .ok (.if_icmp .ge 33, 3) := by decide +kernel
theorem dX6_faultReading_34 : decode cX6_faultReading 34 = .ok (.aload_n 0, 1) := by decide +kernel
theorem dX6_faultReading_35 : decode cX6_faultReading 35 = .ok (.aload_n 1, 1) := by decide +kernel
theorem dX6_faultReading_36 : decode cX6_faultReading 36 = .ok (.invokevirtual 46, 3) := by decide +kernel
theorem dX6_faultReading_39 : decode cX6_faultReading 39 = .ok (.ifCond .ne 8, 3) := by decide +kernel
theorem dX6_faultReading_42 : decode cX6_faultReading 42 = .ok (.aload_n 0, 1) := by decide +kernel
theorem dX6_faultReading_43 : decode cX6_faultReading 43 = .ok (.getfield 25, 3) := by decide +kernel
theorem dX6_faultReading_46 : decode cX6_faultReading 46 = .ok (.ireturn, 1) := by decide +kernel
theorem dX6_faultReading_47 : decode cX6_faultReading 47 = .ok (.aload_n 1, 1) := by decide +kernel
theorem dX6_faultReading_48 : decode cX6_faultReading 48 = .ok (.dup, 1) := by decide +kernel
theorem dX6_faultReading_49 : decode cX6_faultReading 49 = .ok (.getfield 43, 3) := by decide +kernel
theorem dX6_faultReading_52 : decode cX6_faultReading 52 = .ok (.iconst 1, 1) := by decide +kernel
theorem dX6_faultReading_53 : decode cX6_faultReading 53 = .ok (.iadd, 1) := by decide +kernel
theorem dX6_faultReading_54 : decode cX6_faultReading 54 = .ok (.putfield 43, 3) := by decide +kernel
theorem dX6_faultReading_57 : decode cX6_faultReading 57 = .ok (.aload_n 0, 1) := by decide +kernel
theorem dX6_faultReading_58 : decode cX6_faultReading 58 = .ok (.invokevirtual 40, 3) := by decide +kernel
theorem dX6_faultReading_61 : decode cX6_faultReading 61 = .ok (.goto (-43), 3) := by decide +kernel
theorem dX6_faultReading_64 : decode cX6_faultReading 64 = .ok (.aload_n 0, 1) := by decide +kernel
theorem dX6_faultReading_65 : decode cX6_faultReading 65 = .ok (.getfield 22, 3) := by decide +kernel
theorem dX6_faultReading_68 : decode cX6_faultReading 68 = .ok (.ifCond .ne 7, 3) := by decide +kernel
theorem dX6_faultReading_71 : decode cX6_faultReading 71 = .ok (.iconst (-1), 1) := by decide +kernel
theorem dX6_faultReading_72 : decode cX6_faultReading 72 = .ok (.goto 7, 3) := by decide +kernel
theorem dX6_faultReading_75 : decode cX6_faultReading 75 = .ok (.aload_n 0, 1) := by decide +kernel
theorem dX6_faultReading_76 : decode cX6_faultReading 76 = .ok (.getfield 25, 3) := by decide +kernel
theorem dX6_faultReading_79 : decode cX6_faultReading 79 = .ok (.ireturn, 1) := by decide +kernel
set_option maxRecDepth 20000 in
theorem ggX6_readStatement_X6_isWord : GoodIn wsX6_readStatement wsX6_isWord := goodIn_r _ [9, 4, 10, 11, 12, 13, 14, 15, 16, 17, 18, 19, 20, 21, 22, 23, 24, 25, 26, 8, 27, 28, 29, 30, 31, 32, 33, 34, 35, 36, 37, 38, 39, 40, 41, 42, 43, 44, 45, 46, 47, 48, 49, 50, 51, 52, 53, 54, 55, 56, 57, 58, 59, 60, 61, 62, 63, 64, 65, 101, 102, 103, 104, 105, 106] (by decide +kernel) (by decide +kernel)
set_option maxRecDepth 20000 in
theorem gX6_readStatement_X6_isWord : GoodIn wsX6_readStatement (wsV RX6 52 RX6 yX6_isWord wsX6_isWord) := goodIn_app (goodIn_of _ (by decide +kernel)) ggX6_readStatement_X6_isWord
set_option maxRecDepth 20000 in
theorem ggX6_readStatement_X6_nextToken : GoodIn wsX6_readStatement wsX6_nextToken := goodIn_r _ [69, 10, 11, 70, 4, 24, 25, 26, 8, 27, 28, 71, 72, 73, 74, 75, 76, 77, 78, 79, 101, 102, 103, 104, 105, 106] (by decide +kernel) (by decide +kernel)
set_option maxRecDepth 20000 in
theorem gX6_readStatement_X6_nextToken : GoodIn wsX6_readStatement (wsV RX6 40 RX6 yX6_nextToken wsX6_nextToken) := goodIn_app (goodIn_of _ (by decide +kernel)) ggX6_readStatement_X6_nextToken
set_option maxRecDepth 20000 in
theorem ggX6_readStatement_X6_readFirst : GoodIn wsX6_readStatement wsX6_readFirst := goodIn_r _ [83, 5, 6, 7, 8, 9, 4, 10, 11, 12, 13, 14, 15, 16, 17, 18, 19, 20, 21, 22, 23, 24, 25, 26, 27, 28, 29, 30, 31, 32, 33, 34, 35, 36, 37, 38, 39, 40, 41, 42, 43, 44, 45, 46, 47, 48, 49, 50, 51, 52, 53, 54, 55, 56, 57, 58, 59, 60, 61, 62, 63, 64, 65, 84, 85, 86, 87, 88, 89, 90, 101, 102, 103, 104, 105, 106, 95, 96, 97, 98, 99, 100] (by decide +kernel) (by decide +kernel)
set_option maxRecDepth 20000 in
theorem gX6_readStatement_X6_readFirst : GoodIn wsX6_readStatement (wsV RX6 56 RX6 yX6_readFirst wsX6_readFirst) := goodIn_app (goodIn_of _ (by decide +kernel)) ggX6_readStatement_X6_readFirst
set_option maxRecDepth 20000 in
theorem ggX6_readStatement_X6_numberHere : GoodIn wsX6_readStatement wsX6_numberHere := goodIn_r _ [94, 4, 10, 11, 24, 25, 26, 8, 27, 28, 101, 102, 103, 104, 105, 106] (by decide +kernel) (by decide +kernel)
set_option maxRecDepth 20000 in
theorem gX6_readStatement_X6_numberHere : GoodIn wsX6_readStatement (wsV RX6 61 RX6 yX6_numberHere wsX6_numberHere) := goodIn_app (goodIn_of _ (by decide +kernel)) ggX6_readStatement_X6_numberHere
theorem dX6_readStatement_0 : decode cX6_readStatement 0 = .ok (.aload_n 0, 1) := by decide +kernel
theorem dX6_readStatement_1 : decode cX6_readStatement 1 = .ok (.ldc 50, 2) := by decide +kernel
theorem dX6_readStatement_3 : decode cX6_readStatement 3 = .ok (.invokevirtual 52, 3) := by decide +kernel
theorem dX6_readStatement_6 : decode cX6_readStatement 6 = .ok (.ifCond .eq 16, 3) := by decide +kernel
theorem dX6_readStatement_9 : decode cX6_readStatement 9 = .ok (.aload_n 0, 1) := by decide +kernel
theorem dX6_readStatement_10 : decode cX6_readStatement 10 = .ok (.invokevirtual 40, 3) := by decide +kernel
theorem dX6_readStatement_13 : decode cX6_readStatement 13 = .ok (.aload_n 0, 1) := by decide +kernel
theorem dX6_readStatement_14 : decode cX6_readStatement 14 = .ok (.aload_n 1, 1) := by decide +kernel
theorem dX6_readStatement_15 : decode cX6_readStatement 15 = .ok (.invokevirtual 56, 3) := by decide +kernel
theorem dX6_readStatement_18 : decode cX6_readStatement 18 = .ok (.istore_n 2, 1) := by decide +kernel
theorem dX6_readStatement_19 : decode cX6_readStatement 19 = .ok (.goto 106, 3) := by decide +kernel
theorem dX6_readStatement_22 : decode cX6_readStatement 22 = .ok (.aload_n 0, 1) := by decide +kernel
theorem dX6_readStatement_23 : decode cX6_readStatement 23 = .ok (.ldc 59, 2) := by decide +kernel
theorem dX6_readStatement_25 : decode cX6_readStatement 25 = .ok (.invokevirtual 52, 3) := by decide +kernel
theorem dX6_readStatement_28 : decode cX6_readStatement 28 = .ok (.ifCond .eq 32, 3) := by decide +kernel
theorem dX6_readStatement_31 : decode cX6_readStatement 31 = .ok (.aload_n 0, 1) := by decide +kernel
theorem dX6_readStatement_32 : decode cX6_readStatement 32 = .ok (.invokevirtual 40, 3) := by decide +kernel
theorem dX6_readStatement_35 : decode cX6_readStatement 35 = .ok (.aload_n 1, 1) := by decide +kernel
theorem dX6_readStatement_36 : decode cX6_readStatement 36 = .ok (.aload_n 0, 1) := by decide +kernel
theorem dX6_readStatement_37 : decode cX6_readStatement 37 = .ok (.invokevirtual 61, 3) := by decide +kernel
theorem dX6_readStatement_40 : decode cX6_readStatement 40 = .ok (.putfield 65, 3) := by decide +kernel
theorem dX6_readStatement_43 : decode cX6_readStatement 43 = .ok (.aload_n 1, 1) := by decide +kernel
theorem dX6_readStatement_44 : decode cX6_readStatement 44 = .ok (.getfield 65, 3) := by decide +kernel
theorem dX6_readStatement_47 : decode cX6_readStatement 47 = .ok (.iconst (-1), 1) := by decide +kernel
theorem dX6_readStatement_48 : decode cX6_readStatement 48 = .ok (.if_icmp .eq 7, 3) := by decide +kernel
theorem dX6_readStatement_51 : decode cX6_readStatement 51 = .ok (.iconst 1, 1) := by decide +kernel
theorem dX6_readStatement_52 : decode cX6_readStatement 52 = .ok (.goto 4, 3) := by decide +kernel
theorem dX6_readStatement_55 : decode cX6_readStatement 55 = .ok (.iconst 0, 1) := by decide +kernel
theorem dX6_readStatement_56 : decode cX6_readStatement 56 = .ok (.istore_n 2, 1) := by decide +kernel
theorem dX6_readStatement_57 : decode cX6_readStatement 57 = .ok (.goto 68, 3) := by decide +kernel
theorem dX6_readStatement_60 : decode cX6_readStatement 60 = .ok (.aload_n 0, 1) := by decide +kernel
theorem dX6_readStatement_61 : decode cX6_readStatement 61 = .ok (.ldc 67, 2) := by decide +kernel
theorem dX6_readStatement_63 : decode cX6_readStatement 63 = .ok (.invokevirtual 52, 3) := by decide +kernel
theorem dX6_readStatement_66 : decode cX6_readStatement 66 = .ok (.ifCond .eq 32, 3) := by decide +kernel
theorem dX6_readStatement_69 : decode cX6_readStatement 69 = .ok (.aload_n 0, 1) := by decide +kernel
theorem dX6_readStatement_70 : decode cX6_readStatement 70 = .ok (.invokevirtual 40, 3) := by decide +kernel
theorem dX6_readStatement_73 : decode cX6_readStatement 73 = .ok (.aload_n 1, 1) := by decide +kernel
theorem dX6_readStatement_74 : decode cX6_readStatement 74 = .ok (.aload_n 0, 1) := by decide +kernel
theorem dX6_readStatement_75 : decode cX6_readStatement 75 = .ok (.invokevirtual 61, 3) := by decide +kernel
theorem dX6_readStatement_78 : decode cX6_readStatement 78 = .ok (.putfield 69, 3) := by decide +kernel
theorem dX6_readStatement_81 : decode cX6_readStatement 81 = .ok (.aload_n 1, 1) := by decide +kernel
theorem dX6_readStatement_82 : decode cX6_readStatement 82 = .ok (.getfield 69, 3) := by decide +kernel
theorem dX6_readStatement_85 : decode cX6_readStatement 85 = .ok (.iconst (-1), 1) := by decide +kernel
theorem dX6_readStatement_86 : decode cX6_readStatement 86 = .ok (.if_icmp .eq 7, 3) := by decide +kernel
theorem dX6_readStatement_89 : decode cX6_readStatement 89 = .ok (.iconst 1, 1) := by decide +kernel
theorem dX6_readStatement_90 : decode cX6_readStatement 90 = .ok (.goto 4, 3) := by decide +kernel
theorem dX6_readStatement_93 : decode cX6_readStatement 93 = .ok (.iconst 0, 1) := by decide +kernel
theorem dX6_readStatement_94 : decode cX6_readStatement 94 = .ok (.istore_n 2, 1) := by decide +kernel
theorem dX6_readStatement_95 : decode cX6_readStatement 95 = .ok (.goto 30, 3) := by decide +kernel
theorem dX6_readStatement_98 : decode cX6_readStatement 98 = .ok (.aload_n 0, 1) := by decide +kernel
theorem dX6_readStatement_99 : decode cX6_readStatement 99 = .ok (.ldc 71, 2) := by decide +kernel
theorem dX6_readStatement_101 : decode cX6_readStatement 101 = .ok (.invokevirtual 52, 3) := by decide +kernel
theorem dX6_readStatement_104 : decode cX6_readStatement 104 = .ok (.istore_n 2, 1) := by decide +kernel
theorem dX6_readStatement_105 : decode cX6_readStatement 105 = .ok (.aload_n 1, 1) := by decide +kernel
theorem dX6_readStatement_106 : decode cX6_readStatement 106 = .ok (.aload_n 1, 1) := by decide +kernel
theorem dX6_readStatement_107 : decode cX6_readStatement 107 = .ok (.getfield 73, 3) := by decide +kernel
theorem dX6_readStatement_110 : decode cX6_readStatement 110 = .ok (.ifCond .ne 7, 3) := by decide +kernel
theorem dX6_readStatement_113 : decode cX6_readStatement 113 = .ok (.iload_n 2, 1) := by decide +kernel
theorem dX6_readStatement_114 : decode cX6_readStatement 114 = .ok (.ifCond .eq 7, 3) := by decide +kernel
theorem dX6_readStatement_117 : decode cX6_readStatement 117 = .ok (.iconst 1, 1) := by decide +kernel
theorem dX6_readStatement_118 : decode cX6_readStatement 118 = .ok (.goto 4, 3) := by decide +kernel
theorem dX6_readStatement_121 : decode cX6_readStatement 121 = .ok (.iconst 0, 1) := by decide +kernel
theorem dX6_readStatement_122 : decode cX6_readStatement 122 = .ok (.putfield 73, 3) := by decide +kernel
theorem dX6_readStatement_125 : decode cX6_readStatement 125 = .ok (.iload_n 2, 1) := by decide +kernel
theorem dX6_readStatement_126 : decode cX6_readStatement 126 = .ok (.ifCond .ne 5, 3) := by decide +kernel
theorem dX6_readStatement_129 : decode cX6_readStatement 129 = .ok (.iconst 0, 1) := by decide +kernel
theorem dX6_readStatement_130 : decode cX6_readStatement 130 = .ok (.ireturn, 1) := by decide +kernel
theorem dX6_readStatement_131 : decode cX6_readStatement 131 = .ok (.aload_n 0, 1) := by decide +kernel
theorem dX6_readStatement_132 : decode cX6_readStatement 132 = .ok (.invokevirtual 40, 3) := by decide +kernel
theorem dX6_readStatement_135 : decode cX6_readStatement 135 = .ok (.aload_n 0, 1) := by decide +kernel
theorem dX6_readStatement_136 : decode cX6_readStatement 136 = .ok (.getfield 22, 3) := by decide +kernel
theorem dX6_readStatement_139 : decode cX6_readStatement 139 = .ok (.iconst 3, 1) := by decide +kernel
theorem dX6_readStatement_140 : decode cX6_readStatement 140 = .ok (.if_icmp .ne 7, 3) := by decide +kernel
theorem dX6_readStatement_143 : decode cX6_readStatement 143 = .ok (.iconst 1, 1) := by decide +kernel
theorem dX6_readStatement_144 : decode cX6_readStatement 144 = .ok (.goto 4, 3) := by decide +kernel
theorem dX6_readStatement_147 : decode cX6_readStatement 147 = .ok (.iconst 0, 1) := by decide +kernel
theorem dX6_readStatement_148 : decode cX6_readStatement 148 = .ok (.ireturn, 1) := by decide +kernel
set_option maxRecDepth 20000 in
theorem ggX6_readFirst_X6_isWord : GoodIn wsX6_readFirst wsX6_isWord := goodIn_r _ [5, 6, 7, 8, 9, 10, 11, 12, 13, 14, 15, 16, 17, 18, 19, 20, 21, 22, 23, 4, 24, 25, 26, 27, 28, 29, 30, 31, 32, 33, 34, 35, 36, 37, 38, 39, 40, 41, 42, 43, 44, 45, 46, 47, 48, 49, 50, 51, 52, 53, 54, 55, 56, 57, 58, 59, 60, 61, 62, 70, 71, 72, 73, 74, 75] (by decide +kernel) (by decide +kernel)
set_option maxRecDepth 20000 in
theorem gX6_readFirst_X6_isWord : GoodIn wsX6_readFirst (wsV RX6 52 RX6 yX6_isWord wsX6_isWord) := goodIn_app (goodIn_of _ (by decide +kernel)) ggX6_readFirst_X6_isWord
set_option maxRecDepth 20000 in
theorem ggX6_readFirst_X0_addFirst : GoodIn wsX6_readFirst wsX0_addFirst := goodIn_r _ [67, 68, 69, 76, 77, 78, 79, 80, 81] (by decide +kernel) (by decide +kernel)
set_option maxRecDepth 20000 in
theorem gX6_readFirst_X0_addFirst : GoodIn wsX6_readFirst (wsV RX6 78 RX0 yX0_addFirst wsX0_addFirst) := goodIn_app (goodIn_of _ (by decide +kernel)) ggX6_readFirst_X0_addFirst
theorem dX6_readFirst_0 : decode cX6_readFirst 0 = .ok (.aload_n 0, 1) := by decide +kernel
theorem dX6_readFirst_1 : decode cX6_readFirst 1 = .ok (.ldc 76, 2) := by decide +kernel
theorem dX6_readFirst_3 : decode cX6_readFirst 3 = .ok (.invokevirtual 52, 3) := by decide +kernel
theorem dX6_readFirst_6 : decode cX6_readFirst 6 = .ok (.ifCond .eq 11, 3) := by decide +kernel
theorem dX6_readFirst_9 : decode cX6_readFirst 9 = .ok (.aload_n 1, 1) := by decide +kernel
theorem dX6_readFirst_10 : decode cX6_readFirst 10 = .ok (.iconst 0, 1) := by decide +kernel
theorem dX6_readFirst_11 : decode cX6_readFirst 11 = .ok (.invokevirtual 78, 3) := by decide +kernel
theorem dX6_readFirst_14 : decode cX6_readFirst 14 = .ok (.goto 39, 3) := by decide +kernel
theorem dX6_readFirst_17 : decode cX6_readFirst 17 = .ok (.aload_n 0, 1) := by decide +kernel
theorem dX6_readFirst_18 : decode cX6_readFirst 18 = .ok (.ldc 81, 2) := by decide +kernel
theorem dX6_readFirst_20 : decode cX6_readFirst 20 = .ok (.invokevirtual 52, 3) := by decide +kernel
theorem dX6_readFirst_23 : decode cX6_readFirst 23 = .ok (.ifCond .eq 11, 3) := by decide +kernel
theorem dX6_readFirst_26 : decode cX6_readFirst 26 = .ok (.aload_n 1, 1) := by decide +kernel
theorem dX6_readFirst_27 : decode cX6_readFirst 27 = .ok (.iconst 1, 1) := by decide +kernel
theorem dX6_readFirst_28 : decode cX6_readFirst 28 = .ok (.invokevirtual 78, 3) := by decide +kernel
theorem dX6_readFirst_31 : decode cX6_readFirst 31 = .ok (.goto 22, 3) := by decide +kernel
theorem dX6_readFirst_34 : decode cX6_readFirst 34 = .ok (.aload_n 0, 1) := by decide +kernel
theorem dX6_readFirst_35 : decode cX6_readFirst 35 = .ok (.ldc 59, 2) := by decide +kernel
theorem dX6_readFirst_37 : decode cX6_readFirst 37 = .ok (.invokevirtual 52, 3) := by decide +kernel
theorem dX6_readFirst_40 : decode cX6_readFirst 40 = .ok (.ifCond .eq 11, 3) := by decide +kernel
theorem dX6_readFirst_43 : decode cX6_readFirst 43 = .ok (.aload_n 1, 1) := by decide +kernel
theorem dX6_readFirst_44 : decode cX6_readFirst 44 = .ok (.iconst 2, 1) := by decide +kernel
theorem dX6_readFirst_45 : decode cX6_readFirst 45 = .ok (.invokevirtual 78, 3) := by decide +kernel
theorem dX6_readFirst_48 : decode cX6_readFirst 48 = .ok (.goto 5, 3) := by decide +kernel
theorem dX6_readFirst_51 : decode cX6_readFirst 51 = .ok (.iconst 0, 1) := by decide +kernel
theorem dX6_readFirst_52 : decode cX6_readFirst 52 = .ok (.ireturn, 1) := by decide +kernel
theorem dX6_readFirst_53 : decode cX6_readFirst 53 = .ok (.iconst 1, 1) := by decide +kernel
theorem dX6_readFirst_54 : decode cX6_readFirst 54 = .ok (.ireturn, 1) := by decide +kernel
set_option maxRecDepth 20000 in
theorem ggX6_isWord_J0_length_8abf5 : GoodIn wsX6_isWord wsJ0_length_8abf5 := goodIn_r _ [8, 9, 10, 11, 12, 7, 13, 14, 15] (by decide +kernel) (by decide +kernel)
set_option maxRecDepth 20000 in
theorem gX6_isWord_J0_length_8abf5 : GoodIn wsX6_isWord (wsV RX6 83 RJ0 yJ0_length_8abf5 wsJ0_length_8abf5) := goodIn_app (goodIn_of _ (by decide +kernel)) ggX6_isWord_J0_length_8abf5
set_option maxRecDepth 20000 in
theorem ggX6_isWord_X6_byteAt : GoodIn wsX6_isWord wsX6_byteAt := goodIn_r _ [20, 21, 59, 60, 61, 62, 63, 64] (by decide +kernel) (by decide +kernel)
set_option maxRecDepth 20000 in
theorem gX6_isWord_X6_byteAt : GoodIn wsX6_isWord (wsV RX6 87 RX6 yX6_byteAt wsX6_byteAt) := goodIn_app (goodIn_of _ (by decide +kernel)) ggX6_isWord_X6_byteAt
set_option maxRecDepth 20000 in
theorem ggX6_isWord_J0_charAt_5068e : GoodIn wsX6_isWord wsJ0_charAt_5068e := goodIn_r _ [25, 9, 26, 27, 28, 7, 29, 14, 15, 30, 31, 32, 33, 34, 35, 36, 37, 38, 39, 40, 41, 42, 43, 44, 45, 46, 47, 48, 49, 50, 51, 52, 53, 54, 55, 56, 57, 58] (by decide +kernel) (by decide +kernel)
set_option maxRecDepth 20000 in
theorem gX6_isWord_J0_charAt_5068e : GoodIn wsX6_isWord (wsV RX6 91 RJ0 yJ0_charAt_5068e wsJ0_charAt_5068e) := goodIn_app (goodIn_of _ (by decide +kernel)) ggX6_isWord_J0_charAt_5068e
theorem dX6_isWord_0 : decode cX6_isWord 0 = .ok (.aload_n 0, 1) := by decide +kernel
theorem dX6_isWord_1 : decode cX6_isWord 1 = .ok (.getfield 22, 3) := by decide +kernel
theorem dX6_isWord_4 : decode cX6_isWord 4 = .ok (.iconst 1, 1) := by decide +kernel
theorem dX6_isWord_5 : decode cX6_isWord 5 = .ok (.if_icmp .ne 19, 3) := by decide +kernel
theorem dX6_isWord_8 : decode cX6_isWord 8 = .ok (.aload_n 0, 1) := by decide +kernel
theorem dX6_isWord_9 : decode cX6_isWord 9 = .ok (.getfield 28, 3) := by decide +kernel
theorem dX6_isWord_12 : decode cX6_isWord 12 = .ok (.aload_n 0, 1) := by decide +kernel
theorem dX6_isWord_13 : decode cX6_isWord 13 = .ok (.getfield 25, 3) := by decide +kernel
theorem dX6_isWord_16 : decode cX6_isWord 16 = .ok (.isub, 1) := by decide +kernel
theorem dX6_isWord_17 : decode cX6_isWord 17 = .ok (.aload_n 1, 1) := by decide +kernel
theorem dX6_isWord_18 : decode cX6_isWord 18 = .ok (.invokevirtual 83, 3) := by decide +kernel
theorem dX6_isWord_21 : decode cX6_isWord 21 = .ok (.if_icmp .eq 5, 3) := by decide +kernel
theorem dX6_isWord_24 : decode cX6_isWord 24 = .ok (.iconst 0, 1) := by decide +kernel
theorem dX6_isWord_25 : decode cX6_isWord 25 = .ok (.ireturn, 1) := by decide +kernel
theorem dX6_isWord_26 : decode cX6_isWord 26 = .ok (.iconst 0, 1) := by decide +kernel
theorem dX6_isWord_27 : decode cX6_isWord 27 = .ok (.istore_n 2, 1) := by decide +kernel
theorem dX6_isWord_28 : decode cX6_isWord 28 = .ok (.iload_n 2, 1) := by decide +kernel
theorem dX6_isWord_29 : decode cX6_isWord 29 = .ok (.aload_n 1, 1) := by decide +kernel
theorem dX6_isWord_30 : decode cX6_isWord 30 = .ok (.invokevirtual 83, 3) := by decide +kernel
theorem dX6_isWord_33 : decode cX6_isWord 33 = .ok (.if_icmp .ge 29, 3) := by decide +kernel
theorem dX6_isWord_36 : decode cX6_isWord 36 = .ok (.aload_n 0, 1) := by decide +kernel
theorem dX6_isWord_37 : decode cX6_isWord 37 = .ok (.aload_n 0, 1) := by decide +kernel
theorem dX6_isWord_38 : decode cX6_isWord 38 = .ok (.getfield 25, 3) := by decide +kernel
theorem dX6_isWord_41 : decode cX6_isWord 41 = .ok (.iload_n 2, 1) := by decide +kernel
theorem dX6_isWord_42 : decode cX6_isWord 42 = .ok (.iadd, 1) := by decide +kernel
theorem dX6_isWord_43 : decode cX6_isWord 43 = .ok (.invokevirtual 87, 3) := by decide +kernel
theorem dX6_isWord_46 : decode cX6_isWord 46 = .ok (.aload_n 1, 1) := by decide +kernel
theorem dX6_isWord_47 : decode cX6_isWord 47 = .ok (.iload_n 2, 1) := by decide +kernel
theorem dX6_isWord_48 : decode cX6_isWord 48 = .ok (.invokevirtual 91, 3) := by decide +kernel
theorem dX6_isWord_51 : decode cX6_isWord 51 = .ok (.if_icmp .eq 5, 3) := by decide +kernel
theorem dX6_isWord_54 : decode cX6_isWord 54 = .ok (.iconst 0, 1) := by decide +kernel
theorem dX6_isWord_55 : decode cX6_isWord 55 = .ok (.ireturn, 1) := by decide +kernel
theorem dX6_isWord_56 : decode cX6_isWord 56 = .ok (.iinc 2 1, 3) := by decide +kernel
theorem dX6_isWord_59 : decode cX6_isWord 59 = .ok (.goto (-31), 3) := by decide +kernel
theorem dX6_isWord_62 : decode cX6_isWord 62 = .ok (.iconst 1, 1) := by decide +kernel
theorem dX6_isWord_63 : decode cX6_isWord 63 = .ok (.ireturn, 1) := by decide +kernel
set_option maxRecDepth 20000 in
theorem ggX6_numberHere_X6_byteAt : GoodIn wsX6_numberHere wsX6_byteAt := goodIn_r _ [8, 9, 10, 11, 12, 13, 14, 15] (by decide +kernel) (by decide +kernel)
set_option maxRecDepth 20000 in
theorem gX6_numberHere_X6_byteAt : GoodIn wsX6_numberHere (wsV RX6 87 RX6 yX6_byteAt wsX6_byteAt) := goodIn_app (goodIn_of _ (by decide +kernel)) ggX6_numberHere_X6_byteAt
theorem dX6_numberHere_0 : decode cX6_numberHere 0 = .ok (.aload_n 0, 1) := by decide +kernel
theorem dX6_numberHere_1 : decode cX6_numberHere 1 = .ok (.getfield 22, 3) := by decide +kernel
theorem dX6_numberHere_4 : decode cX6_numberHere 4 = .ok (.iconst 2, 1) := by decide +kernel
theorem dX6_numberHere_5 : decode cX6_numberHere 5 = .ok (.if_icmp .ne 16, 3) := by decide +kernel
theorem dX6_numberHere_8 : decode cX6_numberHere 8 = .ok (.aload_n 0, 1) := by decide +kernel
theorem dX6_numberHere_9 : decode cX6_numberHere 9 = .ok (.getfield 28, 3) := by decide +kernel
theorem dX6_numberHere_12 : decode cX6_numberHere 12 = .ok (.aload_n 0, 1) := by decide +kernel
theorem dX6_numberHere_13 : decode cX6_numberHere 13 = .ok (.getfield 25, 3) := by decide +kernel
theorem dX6_numberHere_16 : decode cX6_numberHere 16 = .ok (.isub, 1) := by decide +kernel
theorem dX6_numberHere_17 : decode cX6_numberHere 17 = .ok (.iconst 3, 1) := by decide +kernel
theorem dX6_numberHere_18 : decode cX6_numberHere 18 = .ok (.if_icmp .le 5, 3) := by decide +kernel
theorem dX6_numberHere_21 : decode cX6_numberHere 21 = .ok (.iconst (-1), 1) := by decide +kernel
theorem dX6_numberHere_22 : decode cX6_numberHere 22 = .ok (.ireturn, 1) := by decide +kernel
theorem dX6_numberHere_23 : decode cX6_numberHere 23 = .ok (.iconst 0, 1) := by decide +kernel
theorem dX6_numberHere_24 : decode cX6_numberHere 24 = .ok (.istore_n 1, 1) := by decide +kernel
theorem dX6_numberHere_25 : decode cX6_numberHere 25 = .ok (.aload_n 0, 1) := by decide +kernel
theorem dX6_numberHere_26 : decode cX6_numberHere 26 = .ok (.getfield 25, 3) := by decide +kernel
theorem dX6_numberHere_29 : decode cX6_numberHere 29 = .ok (.istore_n 2, 1) := by decide +kernel
theorem dX6_numberHere_30 : decode cX6_numberHere 30 = .ok (.iload_n 2, 1) := by decide +kernel
theorem dX6_numberHere_31 : decode cX6_numberHere 31 = .ok (.aload_n 0, 1) := by decide +kernel
theorem dX6_numberHere_32 : decode cX6_numberHere 32 = .ok (.getfield 28, 3) := by decide +kernel
theorem dX6_numberHere_35 : decode cX6_numberHere 35 = .ok (.if_icmp .ge 23, 3) := by decide +kernel
theorem dX6_numberHere_38 : decode cX6_numberHere 38 = .ok (.iload_n 1, 1) := by decide +kernel
theorem dX6_numberHere_39 : decode cX6_numberHere 39 = .ok (.bipush 10, 2) := by decide +kernel
theorem dX6_numberHere_41 : decode cX6_numberHere 41 = .ok (.imul, 1) := by decide +kernel
theorem dX6_numberHere_42 : decode cX6_numberHere 42 = .ok (.aload_n 0, 1) := by decide +kernel
theorem dX6_numberHere_43 : decode cX6_numberHere 43 = .ok (.iload_n 2, 1) := by decide +kernel
theorem dX6_numberHere_44 : decode cX6_numberHere 44 = .ok (.invokevirtual 87, 3) := by decide +kernel
theorem dX6_numberHere_47 : decode cX6_numberHere 47 = .ok (.iadd, 1) := by decide +kernel
theorem dX6_numberHere_48 : decode cX6_numberHere 48 = .ok (.bipush 48, 2) := by decide +kernel
theorem dX6_numberHere_50 : decode cX6_numberHere 50 = .ok (.isub, 1) := by decide +kernel
theorem dX6_numberHere_51 : decode cX6_numberHere 51 = .ok (.istore_n 1, 1) := by decide +kernel
theorem dX6_numberHere_52 : decode cX6_numberHere 52 = .ok (.iinc 2 1, 3) := by decide +kernel
theorem dX6_numberHere_55 : decode cX6_numberHere 55 = .ok (.goto (-25), 3) := by decide +kernel
theorem dX6_numberHere_58 : decode cX6_numberHere 58 = .ok (.iload_n 1, 1) := by decide +kernel
theorem dX6_numberHere_59 : decode cX6_numberHere 59 = .ok (.ireturn, 1) := by decide +kernel
set_option maxRecDepth 20000 in
theorem ggX6_nextToken_X6_byteAt : GoodIn wsX6_nextToken wsX6_byteAt := goodIn_r _ [9, 10, 20, 21, 22, 23, 24, 25] (by decide +kernel) (by decide +kernel)
set_option maxRecDepth 20000 in
theorem gX6_nextToken_X6_byteAt : GoodIn wsX6_nextToken (wsV RX6 87 RX6 yX6_byteAt wsX6_byteAt) := goodIn_app (goodIn_of _ (by decide +kernel)) ggX6_nextToken_X6_byteAt
set_option maxRecDepth 20000 in
theorem ggX6_nextToken_X6_isBlank : GoodIn wsX6_nextToken wsX6_isBlank := goodIn_r _ [13] (by decide +kernel) (by decide +kernel)
set_option maxRecDepth 20000 in
theorem gX6_nextToken_X6_isBlank : GoodIn wsX6_nextToken (va_wsS RX6 95 yX6_isBlank wsX6_isBlank) := goodIn_app (goodIn_of _ (by decide +kernel)) ggX6_nextToken_X6_isBlank
set_option maxRecDepth 20000 in
theorem ggX6_nextToken_X6_isLetter : GoodIn wsX6_nextToken wsX6_isLetter := goodIn_r _ [16] (by decide +kernel) (by decide +kernel)
set_option maxRecDepth 20000 in
theorem gX6_nextToken_X6_isLetter : GoodIn wsX6_nextToken (va_wsS RX6 99 yX6_isLetter wsX6_isLetter) := goodIn_app (goodIn_of _ (by decide +kernel)) ggX6_nextToken_X6_isLetter
set_option maxRecDepth 20000 in
theorem ggX6_nextToken_X6_isDigit : GoodIn wsX6_nextToken wsX6_isDigit := goodIn_r _ [19] (by decide +kernel) (by decide +kernel)
set_option maxRecDepth 20000 in
theorem gX6_nextToken_X6_isDigit : GoodIn wsX6_nextToken (va_wsS RX6 102 yX6_isDigit wsX6_isDigit) := goodIn_app (goodIn_of _ (by decide +kernel)) ggX6_nextToken_X6_isDigit
theorem dX6_nextToken_0 : decode cX6_nextToken 0 = .ok (.aload_n 0, 1) := by decide +kernel
theorem dX6_nextToken_1 : decode cX6_nextToken 1 = .ok (.aload_n 0, 1) := by decide +kernel
theorem dX6_nextToken_2 : decode cX6_nextToken 2 = .ok (.getfield 28, 3) := by decide +kernel
theorem dX6_nextToken_5 : decode cX6_nextToken 5 = .ok (.putfield 25, 3) := by decide +kernel
theorem dX6_nextToken_8 : decode cX6_nextToken 8 = .ok (.aload_n 0, 1) := by decide +kernel
theorem dX6_nextToken_9 : decode cX6_nextToken 9 = .ok (.getfield 25, 3) := by decide +kernel
theorem dX6_nextToken_12 : decode cX6_nextToken 12 = .ok (.aload_n 0, 1) := by decide +kernel
theorem dX6_nextToken_13 : decode cX6_nextToken 13 = .ok (.getfield 19, 3) := by decide +kernel
theorem dX6_nextToken_16 : decode cX6_nextToken 16 = .ok (.if_icmp .ge 30, 3) := by decide +kernel
theorem dX6_nextToken_19 : decode cX6_nextToken 19 = .ok (.aload_n 0, 1) := by decide +kernel
theorem dX6_nextToken_20 : decode cX6_nextToken 20 = .ok (.aload_n 0, 1) := by decide +kernel
theorem dX6_nextToken_21 : decode cX6_nextToken 21 = .ok (.getfield 25, 3) := by decide +kernel
theorem dX6_nextToken_24 : decode cX6_nextToken 24 = .ok (.invokevirtual 87, 3) := by decide +kernel
theorem dX6_nextToken_27 : decode cX6_nextToken 27 = .ok (.invokestatic 95, 3) := by decide +kernel
theorem dX6_nextToken_30 : decode cX6_nextToken 30 = .ok (.ifCond .eq 16, 3) := by decide +kernel
theorem dX6_nextToken_33 : decode cX6_nextToken 33 = .ok (.aload_n 0, 1) := by decide +kernel
theorem dX6_nextToken_34 : decode cX6_nextToken 34 = .ok (.dup, 1) := by decide +kernel
theorem dX6_nextToken_35 : decode cX6_nextToken 35 = .ok (.getfield 25, 3) := by decide +kernel
theorem dX6_nextToken_38 : decode cX6_nextToken 38 = .ok (.iconst 1, 1) := by decide +kernel
theorem dX6_nextToken_39 : decode cX6_nextToken 39 = .ok (.iadd, 1) := by decide +kernel
theorem dX6_nextToken_40 : decode cX6_nextToken 40 = .ok (.putfield 25, 3) := by decide +kernel
theorem dX6_nextToken_43 : decode cX6_nextToken 43 = .ok (.goto (-35), 3) := by decide +kernel
theorem dX6_nextToken_46 : decode cX6_nextToken 46 = .ok (.aload_n 0, 1) := by decide +kernel
theorem dX6_nextToken_47 : decode cX6_nextToken 47 = .ok (.aload_n 0, 1) := by decide +kernel
theorem dX6_nextToken_48 : decode cX6_nextToken 48 = .ok (.getfield 25, 3) := by decide +kernel
theorem dX6_nextToken_51 : decode cX6_nextToken 51 = .ok (.putfield 28, 3) := by decide +kernel
theorem dX6_nextToken_54 : decode cX6_nextToken 54 = .ok (.aload_n 0, 1) := by decide +kernel
theorem dX6_nextToken_55 : decode cX6_nextToken 55 = .ok (.getfield 25, 3) := by decide +kernel
theorem dX6_nextToken_58 : decode cX6_nextToken 58 = .ok (.aload_n 0, 1) := by decide +kernel
theorem dX6_nextToken_59 : decode cX6_nextToken 59 = .ok (.getfield 19, 3) := by decide +kernel
theorem dX6_nextToken_62 : decode cX6_nextToken 62 = .ok (.if_icmp .lt 11, 3) := by decide +kernel
theorem dX6_nextToken_65 : decode cX6_nextToken 65 = .ok (.aload_n 0, 1) := by decide +kernel
theorem dX6_nextToken_66 : decode cX6_nextToken 66 = .ok (.iconst 0, 1) := by decide +kernel
theorem dX6_nextToken_67 : decode cX6_nextToken 67 = .ok (.putfield 22, 3) := by decide +kernel
theorem dX6_nextToken_70 : decode cX6_nextToken 70 = .ok (.goto 149, 3) := by decide +kernel
theorem dX6_nextToken_73 : decode cX6_nextToken 73 = .ok (.aload_n 0, 1) := by decide +kernel
theorem dX6_nextToken_74 : decode cX6_nextToken 74 = .ok (.aload_n 0, 1) := by decide +kernel
theorem dX6_nextToken_75 : decode cX6_nextToken 75 = .ok (.getfield 25, 3) := by decide +kernel
theorem dX6_nextToken_78 : decode cX6_nextToken 78 = .ok (.invokevirtual 87, 3) := by decide +kernel
theorem dX6_nextToken_81 : decode cX6_nextToken 81 = .ok (.invokestatic 99, 3) := by decide +kernel
theorem dX6_nextToken_84 : decode cX6_nextToken 84 = .ok (.ifCond .eq 46, 3) := by decide +kernel
theorem dX6_nextToken_87 : decode cX6_nextToken 87 = .ok (.aload_n 0, 1) := by decide +kernel
theorem dX6_nextToken_88 : decode cX6_nextToken 88 = .ok (.iconst 1, 1) := by decide +kernel
theorem dX6_nextToken_89 : decode cX6_nextToken 89 = .ok (.putfield 22, 3) := by decide +kernel
theorem dX6_nextToken_92 : decode cX6_nextToken 92 = .ok (.aload_n 0, 1) := by decide +kernel
theorem dX6_nextToken_93 : decode cX6_nextToken 93 = .ok (.getfield 28, 3) := by decide +kernel
theorem dX6_nextToken_96 : decode cX6_nextToken 96 = .ok (.aload_n 0, 1) := by decide +kernel
theorem dX6_nextToken_97 : decode cX6_nextToken 97 = .ok (.getfield 19, 3) := by decide +kernel
theorem dX6_nextToken_100 : decode cX6_nextToken 100 = .ok (.if_icmp .ge 119, 3) := by decide +kernel
theorem dX6_nextToken_103 : decode cX6_nextToken 103 = .ok (.aload_n 0, 1) := by decide +kernel
theorem dX6_nextToken_104 : decode cX6_nextToken 104 = .ok (.aload_n 0, 1) := by decide +kernel
theorem dX6_nextToken_105 : decode cX6_nextToken 105 = .ok (.getfield 28, 3) := by decide +kernel
theorem dX6_nextToken_108 : decode cX6_nextToken 108 = .ok (.invokevirtual 87, 3) := by decide +kernel
theorem dX6_nextToken_111 : decode cX6_nextToken 111 = .ok (.invokestatic 99, 3) := by decide +kernel
theorem dX6_nextToken_114 : decode cX6_nextToken 114 = .ok (.ifCond .eq 105, 3) := by decide +kernel
theorem dX6_nextToken_117 : decode cX6_nextToken 117 = .ok (.aload_n 0, 1) := by decide +kernel
theorem dX6_nextToken_118 : decode cX6_nextToken 118 = .ok (.dup, 1) := by decide +kernel
theorem dX6_nextToken_119 : decode cX6_nextToken 119 = .ok (.getfield 28, 3) := by decide +kernel
theorem dX6_nextToken_122 : decode cX6_nextToken 122 = .ok (.iconst 1, 1) := by decide +kernel
theorem dX6_nextToken_123 : decode cX6_nextToken 123 = .ok (.iadd, 1) := by decide +kernel
theorem dX6_nextToken_124 : decode cX6_nextToken 124 = .ok (.putfield 28, 3) := by decide +kernel
theorem dX6_nextToken_127 : decode cX6_nextToken 127 = .ok (.goto (-35), 3) := by decide +kernel
theorem dX6_nextToken_130 : decode cX6_nextToken 130 = .ok (.aload_n 0, 1) := by decide +kernel
theorem dX6_nextToken_131 : decode cX6_nextToken 131 = .ok (.aload_n 0, 1) := by decide +kernel
theorem dX6_nextToken_132 : decode cX6_nextToken 132 = .ok (.getfield 25, 3) := by decide +kernel
theorem dX6_nextToken_135 : decode cX6_nextToken 135 = .ok (.invokevirtual 87, 3) := by decide +kernel
theorem dX6_nextToken_138 : decode cX6_nextToken 138 = .ok (.invokestatic 102, 3) := by decide +kernel
theorem dX6_nextToken_141 : decode cX6_nextToken 141 = .ok (.ifCond .eq 46, 3) := by decide +kernel
theorem dX6_nextToken_144 : decode cX6_nextToken 144 = .ok (.aload_n 0, 1) := by decide +kernel
theorem dX6_nextToken_145 : decode cX6_nextToken 145 = .ok (.iconst 2, 1) := by decide +kernel
theorem dX6_nextToken_146 : decode cX6_nextToken 146 = .ok (.putfield 22, 3) := by decide +kernel
theorem dX6_nextToken_149 : decode cX6_nextToken 149 = .ok (.aload_n 0, 1) := by decide +kernel
theorem dX6_nextToken_150 : decode cX6_nextToken 150 = .ok (.getfield 28, 3) := by decide +kernel
theorem dX6_nextToken_153 : decode cX6_nextToken 153 = .ok (.aload_n 0, 1) := by decide +kernel
theorem dX6_nextToken_154 : decode cX6_nextToken 154 = .ok (.getfield 19, 3) := by decide +kernel
theorem dX6_nextToken_157 : decode cX6_nextToken 157 = .ok (.if_icmp .ge 62, 3) := by decide +kernel
theorem dX6_nextToken_160 : decode cX6_nextToken 160 = .ok (.aload_n 0, 1) := by decide +kernel
theorem dX6_nextToken_161 : decode cX6_nextToken 161 = .ok (.aload_n 0, 1) := by decide +kernel
theorem dX6_nextToken_162 : decode cX6_nextToken 162 = .ok (.getfield 28, 3) := by decide +kernel
theorem dX6_nextToken_165 : decode cX6_nextToken 165 = .ok (.invokevirtual 87, 3) := by decide +kernel
theorem dX6_nextToken_168 : decode cX6_nextToken 168 = .ok (.invokestatic 102, 3) := by decide +kernel
theorem dX6_nextToken_171 : decode cX6_nextToken 171 = .ok (.ifCond .eq 48, 3) := by decide +kernel
theorem dX6_nextToken_174 : decode cX6_nextToken 174 = .ok (.aload_n 0, 1) := by decide +kernel
theorem dX6_nextToken_175 : decode cX6_nextToken 175 = .ok (.dup, 1) := by decide +kernel
theorem dX6_nextToken_176 : decode cX6_nextToken 176 = .ok (.getfield 28, 3) := by decide +kernel
theorem dX6_nextToken_179 : decode cX6_nextToken 179 = .ok (.iconst 1, 1) := by decide +kernel
theorem dX6_nextToken_180 : decode cX6_nextToken 180 = .ok (.iadd, 1) := by decide +kernel
theorem dX6_nextToken_181 : decode cX6_nextToken 181 = .ok (.putfield 28, 3) := by decide +kernel
theorem dX6_nextToken_184 : decode cX6_nextToken 184 = .ok (.goto (-35), 3) := by decide +kernel
theorem dX6_nextToken_187 : decode cX6_nextToken 187 = .ok (.aload_n 0, 1) := by decide +kernel
theorem dX6_nextToken_188 : decode cX6_nextToken 188 = .ok (.aload_n 0, 1) := by decide +kernel
theorem dX6_nextToken_189 : decode cX6_nextToken 189 = .ok (.aload_n 0, 1) := by decide +kernel
theorem dX6_nextToken_190 : decode cX6_nextToken 190 = .ok (.getfield 25, 3) := by decide +kernel
theorem dX6_nextToken_193 : decode cX6_nextToken 193 = .ok (.invokevirtual 87, 3) := by decide +kernel
theorem dX6_nextToken_196 : decode cX6_nextToken 196 = .ok (.bipush 59, 2) := by decide +kernel
theorem dX6_nextToken_198 : decode cX6_nextToken 198 = .ok (.if_icmp .ne 7, 3) := by decide +kernel
theorem dX6_nextToken_201 : decode cX6_nextToken 201 = .ok (.iconst 3, 1) := by decide +kernel
theorem dX6_nextToken_202 : decode cX6_nextToken 202 = .ok (.goto 4, 3) := by decide +kernel
theorem dX6_nextToken_205 : decode cX6_nextToken 205 = .ok (.iconst 4, 1) := by decide +kernel
theorem dX6_nextToken_206 : decode cX6_nextToken 206 = .ok (.putfield 22, 3) := by decide +kernel
theorem dX6_nextToken_209 : decode cX6_nextToken 209 = .ok (.aload_n 0, 1) := by decide +kernel
theorem dX6_nextToken_210 : decode cX6_nextToken 210 = .ok (.dup, 1) := by decide +kernel
theorem dX6_nextToken_211 : decode cX6_nextToken 211 = .ok (.getfield 28, 3) := by decide +kernel
theorem dX6_nextToken_214 : decode cX6_nextToken 214 = .ok (.iconst 1, 1) := by decide +kernel
theorem dX6_nextToken_215 : decode cX6_nextToken 215 = .ok (.iadd, 1) := by decide +kernel
theorem dX6_nextToken_216 : decode cX6_nextToken 216 = .ok (.putfield 28, 3) := by decide +kernel
theorem dX6_nextToken_219 : decode cX6_nextToken 219 = .ok (.return_, 1) := by decide +kernel
theorem dX6_byteAt_0 : decode cX6_byteAt 0 = .ok (.iload_n 1, 1) := by decide +kernel
theorem dX6_byteAt_1 : decode cX6_byteAt 1 = .ok (.ifCond .lt 21, 3) := by decide +kernel
theorem dX6_byteAt_4 : decode cX6_byteAt 4 = .ok (.iload_n 1, 1) := by decide +kernel
theorem dX6_byteAt_5 : decode cX6_byteAt 5 = .ok (.aload_n 0, 1) := by decide +kernel
theorem dX6_byteAt_6 : decode cX6_byteAt 6 = .ok (.getfield 9, 3) := by decide +kernel
theorem dX6_byteAt_9 : decode cX6_byteAt 9 = .ok (.arraylength, 1) := by decide +kernel
theorem dX6_byteAt_10 : decode cX6_byteAt 10 = .ok (.if_icmp .ge 12, 3) := by decide +kernel
theorem dX6_byteAt_13 : decode cX6_byteAt 13 = .ok (.aload_n 0, 1) := by decide +kernel
theorem dX6_byteAt_14 : decode cX6_byteAt 14 = .ok (.getfield 9, 3) := by decide +kernel
theorem dX6_byteAt_17 : decode cX6_byteAt 17 = .ok (.iload_n 1, 1) := by decide +kernel
theorem dX6_byteAt_18 : decode cX6_byteAt 18 = .ok (.baload, 1) := by decide +kernel
theorem dX6_byteAt_19 : decode cX6_byteAt 19 = .ok (.goto 4, 3) := by decide +kernel
theorem dX6_byteAt_22 : decode cX6_byteAt 22 = .ok (.iconst 0, 1) := by decide +kernel
theorem dX6_byteAt_23 : decode cX6_byteAt 23 = .ok (.ireturn, 1) := by decide +kernel
theorem dX6_isBlank_0 : decode cX6_isBlank 0 = .ok (.iload_n 0, 1) := by decide +kernel
theorem dX6_isBlank_1 : decode cX6_isBlank 1 = .ok (.bipush 32, 2) := by decide +kernel
theorem dX6_isBlank_3 : decode cX6_isBlank 3 = .ok (.if_icmp .eq 9, 3) := by decide +kernel
theorem dX6_isBlank_6 : decode cX6_isBlank 6 = .ok (.iload_n 0, 1) := by decide +kernel
theorem dX6_isBlank_7 : decode cX6_isBlank 7 = .ok (.bipush 10, 2) := by decide +kernel
theorem dX6_isBlank_9 : decode cX6_isBlank 9 = .ok (.if_icmp .ne 7, 3) := by decide +kernel
theorem dX6_isBlank_12 : decode cX6_isBlank 12 = .ok (.iconst 1, 1) := by decide +kernel
theorem dX6_isBlank_13 : decode cX6_isBlank 13 = .ok (.goto 4, 3) := by decide +kernel
theorem dX6_isBlank_16 : decode cX6_isBlank 16 = .ok (.iconst 0, 1) := by decide +kernel
theorem dX6_isBlank_17 : decode cX6_isBlank 17 = .ok (.ireturn, 1) := by decide +kernel
theorem dX6_isLetter_0 : decode cX6_isLetter 0 = .ok (.iload_n 0, 1) := by decide +kernel
theorem dX6_isLetter_1 : decode cX6_isLetter 1 = .ok (.bipush 97, 2) := by decide +kernel
theorem dX6_isLetter_3 : decode cX6_isLetter 3 = .ok (.if_icmp .lt 13, 3) := by decide +kernel
theorem dX6_isLetter_6 : decode cX6_isLetter 6 = .ok (.iload_n 0, 1) := by decide +kernel
theorem dX6_isLetter_7 : decode cX6_isLetter 7 = .ok (.bipush 122, 2) := by decide +kernel
theorem dX6_isLetter_9 : decode cX6_isLetter 9 = .ok (.if_icmp .gt 7, 3) := by decide +kernel
theorem dX6_isLetter_12 : decode cX6_isLetter 12 = .ok (.iconst 1, 1) := by decide +kernel
theorem dX6_isLetter_13 : decode cX6_isLetter 13 = .ok (.goto 4, 3) := by decide +kernel
theorem dX6_isLetter_16 : decode cX6_isLetter 16 = .ok (.iconst 0, 1) := by decide +kernel
theorem dX6_isLetter_17 : decode cX6_isLetter 17 = .ok (.ireturn, 1) := by decide +kernel
theorem dX6_isDigit_0 : decode cX6_isDigit 0 = .ok (.iload_n 0, 1) := by decide +kernel
theorem dX6_isDigit_1 : decode cX6_isDigit 1 = .ok (.bipush 48, 2) := by decide +kernel
theorem dX6_isDigit_3 : decode cX6_isDigit 3 = .ok (.if_icmp .lt 13, 3) := by decide +kernel
theorem dX6_isDigit_6 : decode cX6_isDigit 6 = .ok (.iload_n 0, 1) := by decide +kernel
theorem dX6_isDigit_7 : decode cX6_isDigit 7 = .ok (.bipush 57, 2) := by decide +kernel
theorem dX6_isDigit_9 : decode cX6_isDigit 9 = .ok (.if_icmp .gt 7, 3) := by decide +kernel
theorem dX6_isDigit_12 : decode cX6_isDigit 12 = .ok (.iconst 1, 1) := by decide +kernel
theorem dX6_isDigit_13 : decode cX6_isDigit 13 = .ok (.goto 4, 3) := by decide +kernel
theorem dX6_isDigit_16 : decode cX6_isDigit 16 = .ok (.iconst 0, 1) := by decide +kernel
theorem dX6_isDigit_17 : decode cX6_isDigit 17 = .ok (.ireturn, 1) := by decide +kernel
set_option maxRecDepth 20000 in
theorem ggX7_init_X6_init : GoodIn wsX7_init wsX6_init := goodIn_r _ [43, 44, 2, 3, 45, 46, 47, 48, 49, 50, 51, 118, 119, 120, 121, 122, 123] (by decide +kernel) (by decide +kernel)
set_option maxRecDepth 20000 in
theorem gX7_init_X6_init_n17 : GoodIn wsX7_init (wsX6_init) := ggX7_init_X6_init
set_option maxRecDepth 20000 in
theorem ggX7_init_X0_init : GoodIn wsX7_init wsX0_init := goodIn_r _ [53, 54, 2, 3, 55, 56, 57, 58, 59, 60, 61, 124, 125, 126, 127, 128, 129] (by decide +kernel) (by decide +kernel)
set_option maxRecDepth 20000 in
theorem gX7_init_X0_init_n24 : GoodIn wsX7_init (wsX0_init) := ggX7_init_X0_init
set_option maxRecDepth 20000 in
theorem ggX7_init_X4_init : GoodIn wsX7_init wsX4_init := goodIn_r _ [63, 64, 2, 3, 65, 66, 67, 68, 130, 131, 132, 133] (by decide +kernel) (by decide +kernel)
set_option maxRecDepth 20000 in
theorem gX7_init_X4_init_n34 : GoodIn wsX7_init (wsX4_init) := ggX7_init_X4_init
set_option maxRecDepth 20000 in
theorem ggX7_init_X5_init : GoodIn wsX7_init wsX5_init := goodIn_r _ [71, 72, 2, 3, 73, 74, 75, 76, 77, 78, 79, 80, 81, 82, 83, 84, 85, 86, 87, 88, 89, 90, 91, 92, 93, 148, 149, 150, 151, 152, 134, 135, 136, 137, 138, 139, 140, 141, 142, 143] (by decide +kernel) (by decide +kernel)
set_option maxRecDepth 20000 in
theorem gX7_init_X5_init : GoodIn wsX7_init (wsX5_init) := ggX7_init_X5_init
set_option maxRecDepth 20000 in
theorem ggX7_init_X2_init : GoodIn wsX7_init wsX2_init := goodIn_r _ [96, 97, 2, 3, 98, 16, 17, 99, 100, 101, 102, 62, 63, 64, 65, 66, 67, 68, 130, 131, 132, 133, 144, 145, 146, 147] (by decide +kernel) (by decide +kernel)
set_option maxRecDepth 20000 in
theorem gX7_init_X2_init : GoodIn wsX7_init (wsX2_init) := ggX7_init_X2_init
theorem dX7_init_0 : decode cX7_init 0 = .ok (.aload_n 0, 1) := by decide +kernel
theorem dX7_init_1 : decode cX7_init 1 = .ok (.invokespecial 1, 3) := by decide +kernel
theorem dX7_init_4 : decode cX7_init 4 = .ok (.aload_n 0, 1) := by decide +kernel
theorem dX7_init_5 : decode cX7_init 5 = .ok (.bipush 40, 2) := by decide +kernel
theorem dX7_init_7 : decode cX7_init 7 = .ok (.anewarray 9, 3) := by decide +kernel
theorem dX7_init_10 : decode cX7_init 10 = .ok (.putfield 11, 3) := by decide +kernel
theorem dX7_init_13 : decode cX7_init 13 = .ok (.aload_n 0, 1) := by decide +kernel
theorem dX7_init_14 : decode cX7_init 14 = .ok (.new 15, 3) := by decide +kernel
theorem dX7_init_17 : decode cX7_init 17 = .ok (.dup, 1) := by decide +kernel
theorem dX7_init_18 : decode cX7_init 18 = .ok (.invokespecial 17, 3) := by decide +kernel
theorem dX7_init_21 : decode cX7_init 21 = .ok (.putfield 18, 3) := by decide +kernel
theorem dX7_init_24 : decode cX7_init 24 = .ok (.aload_n 0, 1) := by decide +kernel
theorem dX7_init_25 : decode cX7_init 25 = .ok (.new 22, 3) := by decide +kernel
theorem dX7_init_28 : decode cX7_init 28 = .ok (.dup, 1) := by decide +kernel
theorem dX7_init_29 : decode cX7_init 29 = .ok (.invokespecial 24, 3) := by decide +kernel
theorem dX7_init_32 : decode cX7_init 32 = .ok (.putfield 25, 3) := by decide +kernel
theorem dX7_init_35 : decode cX7_init 35 = .ok (.aload_n 0, 1) := by decide +kernel
theorem dX7_init_36 : decode cX7_init 36 = .ok (.new 22, 3) := by decide +kernel
theorem dX7_init_39 : decode cX7_init 39 = .ok (.dup, 1) := by decide +kernel
theorem dX7_init_40 : decode cX7_init 40 = .ok (.invokespecial 24, 3) := by decide +kernel
theorem dX7_init_43 : decode cX7_init 43 = .ok (.putfield 29, 3) := by decide +kernel
theorem dX7_init_46 : decode cX7_init 46 = .ok (.aload_n 0, 1) := by decide +kernel
theorem dX7_init_47 : decode cX7_init 47 = .ok (.new 32, 3) := by decide +kernel
theorem dX7_init_50 : decode cX7_init 50 = .ok (.dup, 1) := by decide +kernel
theorem dX7_init_51 : decode cX7_init 51 = .ok (.invokespecial 34, 3) := by decide +kernel
theorem dX7_init_54 : decode cX7_init 54 = .ok (.putfield 35, 3) := by decide +kernel
theorem dX7_init_57 : decode cX7_init 57 = .ok (.aload_n 0, 1) := by decide +kernel
theorem dX7_init_58 : decode cX7_init 58 = .ok (.iconst 0, 1) := by decide +kernel
theorem dX7_init_59 : decode cX7_init 59 = .ok (.putfield 39, 3) := by decide +kernel
theorem dX7_init_62 : decode cX7_init 62 = .ok (.aload_n 0, 1) := by decide +kernel
theorem dX7_init_63 : decode cX7_init 63 = .ok (.iconst 0, 1) := by decide +kernel
theorem dX7_init_64 : decode cX7_init 64 = .ok (.putfield 43, 3) := by decide +kernel
theorem dX7_init_67 : decode cX7_init 67 = .ok (.aload_n 0, 1) := by decide +kernel
theorem dX7_init_68 : decode cX7_init 68 = .ok (.iconst 0, 1) := by decide +kernel
theorem dX7_init_69 : decode cX7_init 69 = .ok (.putfield 46, 3) := by decide +kernel
theorem dX7_init_72 : decode cX7_init 72 = .ok (.aload_n 0, 1) := by decide +kernel
theorem dX7_init_73 : decode cX7_init 73 = .ok (.iconst 0, 1) := by decide +kernel
theorem dX7_init_74 : decode cX7_init 74 = .ok (.putfield 49, 3) := by decide +kernel
theorem dX7_init_77 : decode cX7_init 77 = .ok (.aload_n 0, 1) := by decide +kernel
theorem dX7_init_78 : decode cX7_init 78 = .ok (.iconst (-1), 1) := by decide +kernel
theorem dX7_init_79 : decode cX7_init 79 = .ok (.putfield 52, 3) := by decide +kernel
theorem dX7_init_82 : decode cX7_init 82 = .ok (.aload_n 0, 1) := by decide +kernel
theorem dX7_init_83 : decode cX7_init 83 = .ok (.iconst (-1), 1) := by decide +kernel
theorem dX7_init_84 : decode cX7_init 84 = .ok (.putfield 55, 3) := by decide +kernel
theorem dX7_init_87 : decode cX7_init 87 = .ok (.aload_n 0, 1) := by decide +kernel
theorem dX7_init_88 : decode cX7_init 88 = .ok (.iconst (-1), 1) := by decide +kernel
theorem dX7_init_89 : decode cX7_init 89 = .ok (.putfield 58, 3) := by decide +kernel
theorem dX7_init_92 : decode cX7_init 92 = .ok (.aload_n 0, 1) := by decide +kernel
theorem dX7_init_93 : decode cX7_init 93 = .ok (.iconst (-1), 1) := by decide +kernel
theorem dX7_init_94 : decode cX7_init 94 = .ok (.putfield 61, 3) := by decide +kernel
theorem dX7_init_97 : decode cX7_init 97 = .ok (.iconst 2, 1) := by decide +kernel
theorem dX7_init_98 : decode cX7_init 98 = .ok (.bipush 11, 2) := by decide +kernel
theorem dX7_init_100 : decode cX7_init 100 = .ok (.iload_n 1, 1) := by decide +kernel
theorem dX7_init_101 : decode cX7_init 101 = .ok (.invokestatic 64, 3) := by decide +kernel
theorem dX7_init_104 : decode cX7_init 104 = .ok (.invokestatic 70, 3) := by decide +kernel
theorem dX7_init_107 : decode cX7_init 107 = .ok (.istore_n 2, 1) := by decide +kernel
theorem dX7_init_108 : decode cX7_init 108 = .ok (.aload_n 0, 1) := by decide +kernel
theorem dX7_init_109 : decode cX7_init 109 = .ok (.iload_n 2, 1) := by decide +kernel
theorem dX7_init_110 : decode cX7_init 110 = .ok (.anewarray 73, 3) := by decide +kernel
theorem dX7_init_113 : decode cX7_init 113 = .ok (.putfield 75, 3) := by decide +kernel
theorem dX7_init_116 : decode cX7_init 116 = .ok (.aconst_null, 1) := by decide +kernel
theorem dX7_init_117 : decode cX7_init 117 = .ok (.astore_n 3, 1) := by decide +kernel
theorem dX7_init_118 : decode cX7_init 118 = .ok (.iload_n 2, 1) := by decide +kernel
theorem dX7_init_119 : decode cX7_init 119 = .ok (.iconst 1, 1) := by decide +kernel
theorem dX7_init_120 : decode cX7_init 120 = .ok (.isub, 1) := by decide +kernel
theorem dX7_init_121 : decode cX7_init 121 = .ok (.istore 4, 2) := by decide +kernel
theorem dX7_init_123 : decode cX7_init 123 = .ok (.iload 4, 2) := by decide +kernel
theorem dX7_init_125 : decode cX7_init 125 = .ok (.ifCond .lt 28, 3) := by decide +kernel
theorem dX7_init_128 : decode cX7_init 128 = .ok (.new 73, 3) := by decide +kernel
theorem dX7_init_131 : decode cX7_init 131 = .ok (.dup, 1) := by decide +kernel
theorem dX7_init_132 : decode cX7_init 132 = .ok (.iload 4, 2) := by decide +kernel
theorem dX7_init_134 : decode cX7_init 134 = .ok (.aload_n 3, 1) := by decide +kernel
theorem dX7_init_135 : decode cX7_init 135 = .ok (.invokespecial 79, 3) := by decide +kernel
theorem dX7_init_138 : decode cX7_init 138 = .ok (.astore_n 3, 1) := by decide +kernel
theorem dX7_init_139 : decode cX7_init 139 = .ok (.aload_n 0, 1) := by decide +kernel
theorem dX7_init_140 : decode cX7_init 140 = .ok (.getfield 75, 3) := by decide +kernel
theorem dX7_init_143 : decode cX7_init 143 = .ok (.iload 4, 2) := by decide +kernel
theorem dX7_init_145 : decode cX7_init 145 = .ok (.aload_n 3, 1) := by decide +kernel
theorem dX7_init_146 : decode cX7_init 146 = .ok (.aastore, 1) := by decide +kernel
theorem dX7_init_147 : decode cX7_init 147 = .ok (.iinc 4 (-1), 3) := by decide +kernel
theorem dX7_init_150 : decode cX7_init 150 = .ok (.goto (-27), 3) := by decide +kernel
theorem dX7_init_153 : decode cX7_init 153 = .ok (.aload_n 0, 1) := by decide +kernel
theorem dX7_init_154 : decode cX7_init 154 = .ok (.new 82, 3) := by decide +kernel
theorem dX7_init_157 : decode cX7_init 157 = .ok (.dup, 1) := by decide +kernel
theorem dX7_init_158 : decode cX7_init 158 = .ok (.aload_n 3, 1) := by decide +kernel
theorem dX7_init_159 : decode cX7_init 159 = .ok (.aload_n 0, 1) := by decide +kernel
theorem dX7_init_160 : decode cX7_init 160 = .ok (.getfield 25, 3) := by decide +kernel
theorem dX7_init_163 : decode cX7_init 163 = .ok (.invokespecial 84, 3) := by decide +kernel
theorem dX7_init_166 : decode cX7_init 166 = .ok (.putfield 87, 3) := by decide +kernel
theorem dX7_init_169 : decode cX7_init 169 = .ok (.return_, 1) := by decide +kernel
set_option maxRecDepth 20000 in
theorem ggX7_tank_X7_tankAt : GoodIn wsX7_tank wsX7_tankAt := goodIn_r _ [9, 10, 14, 15, 16, 17, 18, 19, 20, 21, 22, 23, 24, 25, 26, 27, 28] (by decide +kernel) (by decide +kernel)
set_option maxRecDepth 20000 in
theorem gX7_tank_X7_tankAt : GoodIn wsX7_tank (wsV RX7 91 RX7 yX7_tankAt wsX7_tankAt) := goodIn_app (goodIn_of _ (by decide +kernel)) ggX7_tank_X7_tankAt
set_option maxRecDepth 20000 in
theorem ggX7_tank_X7_isWithin : GoodIn wsX7_tank wsX7_isWithin := goodIn_r _ [13] (by decide +kernel) (by decide +kernel)
set_option maxRecDepth 20000 in
theorem gX7_tank_X7_isWithin : GoodIn wsX7_tank (va_wsS RX7 95 yX7_isWithin wsX7_isWithin) := goodIn_app (goodIn_of _ (by decide +kernel)) ggX7_tank_X7_isWithin
theorem dX7_tank_0 : decode cX7_tank 0 = .ok (.aload_n 0, 1) := by decide +kernel
theorem dX7_tank_1 : decode cX7_tank 1 = .ok (.iload_n 1, 1) := by decide +kernel
theorem dX7_tank_2 : decode cX7_tank 2 = .ok (.invokevirtual 91, 3) := by decide +kernel
theorem dX7_tank_5 : decode cX7_tank 5 = .ok (.astore 5, 2) := by decide +kernel
theorem dX7_tank_7 : decode cX7_tank 7 = .ok (.aload 5, 2) := by decide +kernel
theorem dX7_tank_9 : decode cX7_tank 9 = .ok (.ifnull 41, 3) := by decide +kernel
theorem dX7_tank_12 : decode cX7_tank 12 = .ok (.iload_n 2, 1) := by decide +kernel
theorem dX7_tank_13 : decode cX7_tank 13 = .ok (.iconst 0, 1) := by decide +kernel
theorem dX7_tank_14 : decode cX7_tank 14 = .ok (.bipush 20, 2) := by decide +kernel
theorem dX7_tank_16 : decode cX7_tank 16 = .ok (.invokestatic 95, 3) := by decide +kernel
theorem dX7_tank_19 : decode cX7_tank 19 = .ok (.ifCond .eq 31, 3) := by decide +kernel
theorem dX7_tank_22 : decode cX7_tank 22 = .ok (.iload_n 3, 1) := by decide +kernel
theorem dX7_tank_23 : decode cX7_tank 23 = .ok (.bipush 10, 2) := by decide +kernel
theorem dX7_tank_25 : decode cX7_tank 25 = .ok (.sipush 1000, 3) := by decide +kernel
theorem dX7_tank_28 : decode cX7_tank 28 = .ok (.invokestatic 95, 3) := by decide +kernel
theorem dX7_tank_31 : decode cX7_tank 31 = .ok (.ifCond .eq 19, 3) := by decide +kernel
theorem dX7_tank_34 : decode cX7_tank 34 = .ok (.iload 4, 2) := by decide +kernel
theorem dX7_tank_36 : decode cX7_tank 36 = .ok (.iconst 0, 1) := by decide +kernel
theorem dX7_tank_37 : decode cX7_tank 37 = .ok (.sipush 500, 3) := by decide +kernel
theorem dX7_tank_40 : decode cX7_tank 40 = .ok (.invokestatic 95, 3) := by decide +kernel
theorem dX7_tank_43 : decode cX7_tank 43 = .ok (.ifCond .eq 7, 3) := by decide +kernel
theorem dX7_tank_46 : decode cX7_tank 46 = .ok (.iconst 1, 1) := by decide +kernel
theorem dX7_tank_47 : decode cX7_tank 47 = .ok (.goto 4, 3) := by decide +kernel
theorem dX7_tank_50 : decode cX7_tank 50 = .ok (.iconst 0, 1) := by decide +kernel
theorem dX7_tank_51 : decode cX7_tank 51 = .ok (.istore 6, 2) := by decide +kernel
theorem dX7_tank_53 : decode cX7_tank 53 = .ok (.iload 6, 2) := by decide +kernel
theorem dX7_tank_55 : decode cX7_tank 55 = .ok (.ifCond .eq 10, 3) := by decide +kernel
theorem dX7_tank_58 : decode cX7_tank 58 = .ok (.aload_n 0, 1) := by decide +kernel
theorem dX7_tank_59 : decode cX7_tank 59 = .ok (.getfield 43, 3) := by decide +kernel
theorem dX7_tank_62 : decode cX7_tank 62 = .ok (.ifCond .le 5, 3) := by decide +kernel
theorem dX7_tank_65 : decode cX7_tank 65 = .ok (.iconst 0, 1) := by decide +kernel
theorem dX7_tank_66 : decode cX7_tank 66 = .ok (.ireturn, 1) := by decide +kernel
theorem dX7_tank_67 : decode cX7_tank 67 = .ok (.aload 5, 2) := by decide +kernel
theorem dX7_tank_69 : decode cX7_tank 69 = .ok (.iload_n 2, 1) := by decide +kernel
theorem dX7_tank_70 : decode cX7_tank 70 = .ok (.putfield 99, 3) := by decide +kernel
theorem dX7_tank_73 : decode cX7_tank 73 = .ok (.aload 5, 2) := by decide +kernel
theorem dX7_tank_75 : decode cX7_tank 75 = .ok (.iload_n 3, 1) := by decide +kernel
theorem dX7_tank_76 : decode cX7_tank 76 = .ok (.putfield 102, 3) := by decide +kernel
theorem dX7_tank_79 : decode cX7_tank 79 = .ok (.aload 5, 2) := by decide +kernel
theorem dX7_tank_81 : decode cX7_tank 81 = .ok (.iload 4, 2) := by decide +kernel
theorem dX7_tank_83 : decode cX7_tank 83 = .ok (.putfield 105, 3) := by decide +kernel
theorem dX7_tank_86 : decode cX7_tank 86 = .ok (.iconst 1, 1) := by decide +kernel
theorem dX7_tank_87 : decode cX7_tank 87 = .ok (.ireturn, 1) := by decide +kernel
set_option maxRecDepth 20000 in
theorem ggX7_water_X7_tankAt : GoodIn wsX7_water wsX7_tankAt := goodIn_r _ [9, 10, 36, 37, 38, 39, 40, 41, 42, 43, 44, 45, 46, 47, 48, 49, 50] (by decide +kernel) (by decide +kernel)
set_option maxRecDepth 20000 in
theorem gX7_water_X7_tankAt : GoodIn wsX7_water (wsV RX7 91 RX7 yX7_tankAt wsX7_tankAt) := goodIn_app (goodIn_of _ (by decide +kernel)) ggX7_water_X7_tankAt
set_option maxRecDepth 20000 in
theorem ggX7_water_X5_roomIf : GoodIn wsX7_water wsX5_roomIf := goodIn_r _ [15, 16, 17, 21, 22, 23, 24, 25, 26, 27, 28, 29, 30] (by decide +kernel) (by decide +kernel)
set_option maxRecDepth 20000 in
theorem gX7_water_X5_roomIf : GoodIn wsX7_water (wsV RX7 118 RX5 yX5_roomIf wsX5_roomIf) := goodIn_app (goodIn_of _ (by decide +kernel)) ggX7_water_X5_roomIf
set_option maxRecDepth 20000 in
theorem ggX7_water_X7_isWithin : GoodIn wsX7_water wsX7_isWithin := goodIn_r _ [20] (by decide +kernel) (by decide +kernel)
set_option maxRecDepth 20000 in
theorem gX7_water_X7_isWithin : GoodIn wsX7_water (va_wsS RX7 95 yX7_isWithin wsX7_isWithin) := goodIn_app (goodIn_of _ (by decide +kernel)) ggX7_water_X7_isWithin
theorem dX7_water_0 : decode cX7_water 0 = .ok (.aload_n 0, 1) := by decide +kernel
theorem dX7_water_1 : decode cX7_water 1 = .ok (.iload_n 1, 1) := by decide +kernel
theorem dX7_water_2 : decode cX7_water 2 = .ok (.invokevirtual 91, 3) := by decide +kernel
theorem dX7_water_5 : decode cX7_water 5 = .ok (.astore_n 3, 1) := by decide +kernel
theorem dX7_water_6 : decode cX7_water 6 = .ok (.aload_n 3, 1) := by decide +kernel
theorem dX7_water_7 : decode cX7_water 7 = .ok (.ifnull 22, 3) := by decide +kernel
theorem dX7_water_10 : decode cX7_water 10 = .ok (.iload_n 2, 1) := by decide +kernel
theorem dX7_water_11 : decode cX7_water 11 = .ok (.iconst 0, 1) := by decide +kernel
theorem dX7_water_12 : decode cX7_water 12 = .ok (.aload_n 3, 1) := by decide +kernel
theorem dX7_water_13 : decode cX7_water 13 = .ok (.aload_n 3, 1) := by decide +kernel
theorem dX7_water_14 : decode cX7_water 14 = .ok (.getfield 108, 3) := by decide +kernel
theorem dX7_water_17 : decode cX7_water 17 = .ok (.getfield 112, 3) := by decide +kernel
theorem dX7_water_20 : decode cX7_water 20 = .ok (.invokevirtual 118, 3) := by decide +kernel
theorem dX7_water_23 : decode cX7_water 23 = .ok (.invokestatic 95, 3) := by decide +kernel
theorem dX7_water_26 : decode cX7_water 26 = .ok (.ifCond .ne 5, 3) := by decide +kernel
theorem dX7_water_29 : decode cX7_water 29 = .ok (.iconst 0, 1) := by decide +kernel
theorem dX7_water_30 : decode cX7_water 30 = .ok (.ireturn, 1) := by decide +kernel
theorem dX7_water_31 : decode cX7_water 31 = .ok (.aload_n 0, 1) := by decide +kernel
theorem dX7_water_32 : decode cX7_water 32 = .ok (.dup, 1) := by decide +kernel
theorem dX7_water_33 : decode cX7_water 33 = .ok (.getfield 49, 3) := by decide +kernel
theorem dX7_water_36 : decode cX7_water 36 = .ok (.iload_n 2, 1) := by decide +kernel
theorem dX7_water_37 : decode cX7_water 37 = .ok (.aload_n 3, 1) := by decide +kernel
theorem dX7_water_38 : decode cX7_water 38 = .ok (.getfield 108, 3) := by decide +kernel
theorem dX7_water_41 : decode cX7_water 41 = .ok (.getfield 122, 3) := by decide +kernel
theorem dX7_water_44 : decode cX7_water 44 = .ok (.isub, 1) := by decide +kernel
theorem dX7_water_45 : decode cX7_water 45 = .ok (.iadd, 1) := by decide +kernel
theorem dX7_water_46 : decode cX7_water 46 = .ok (.putfield 49, 3) := by decide +kernel
theorem dX7_water_49 : decode cX7_water 49 = .ok (.aload_n 3, 1) := by decide +kernel
theorem dX7_water_50 : decode cX7_water 50 = .ok (.getfield 108, 3) := by decide +kernel
theorem dX7_water_53 : decode cX7_water 53 = .ok (.iload_n 2, 1) := by decide +kernel
theorem dX7_water_54 : decode cX7_water 54 = .ok (.putfield 122, 3) := by decide +kernel
theorem dX7_water_57 : decode cX7_water 57 = .ok (.iconst 1, 1) := by decide +kernel
theorem dX7_water_58 : decode cX7_water 58 = .ok (.ireturn, 1) := by decide +kernel
set_option maxRecDepth 20000 in
theorem ggX7_field_X7_tankAt : GoodIn wsX7_field wsX7_tankAt := goodIn_r _ [11, 12, 55, 56, 57, 58, 59, 60, 61, 62, 63, 64, 65, 66, 67, 68, 69] (by decide +kernel) (by decide +kernel)
set_option maxRecDepth 20000 in
theorem gX7_field_X7_tankAt : GoodIn wsX7_field (wsV RX7 91 RX7 yX7_tankAt wsX7_tankAt) := goodIn_app (goodIn_of _ (by decide +kernel)) ggX7_field_X7_tankAt
set_option maxRecDepth 20000 in
theorem ggX7_field_X7_isWithin : GoodIn wsX7_field wsX7_isWithin := goodIn_r _ [15] (by decide +kernel) (by decide +kernel)
set_option maxRecDepth 20000 in
theorem gX7_field_X7_isWithin : GoodIn wsX7_field (va_wsS RX7 95 yX7_isWithin wsX7_isWithin) := goodIn_app (goodIn_of _ (by decide +kernel)) ggX7_field_X7_isWithin
set_option maxRecDepth 20000 in
theorem ggX7_field_X1_init : GoodIn wsX7_field wsX1_init := goodIn_r _ [18, 19, 20, 21, 22, 23, 24, 25, 26, 27, 28, 29, 30, 31, 32, 33, 70, 71, 72, 73, 74, 75, 76, 77, 78, 79, 80, 81] (by decide +kernel) (by decide +kernel)
set_option maxRecDepth 20000 in
theorem gX7_field_X1_init : GoodIn wsX7_field (wsX1_init) := ggX7_field_X1_init
set_option maxRecDepth 20000 in
theorem ggX7_field_X5_putInOrder : GoodIn wsX7_field wsX5_putInOrder := goodIn_r _ [38, 39, 40, 41, 42, 43, 44, 45, 46, 47, 48, 49, 50, 51, 52, 53, 54, 82, 83, 84, 85, 86, 87, 88, 89, 90, 91, 70, 71, 72, 73, 74, 75, 76, 77, 78, 79, 80, 81, 92, 93, 94, 95, 96, 97] (by decide +kernel) (by decide +kernel)
set_option maxRecDepth 20000 in
theorem gX7_field_X5_putInOrder : GoodIn wsX7_field (wsV RX7 128 RX5 yX5_putInOrder wsX5_putInOrder) := goodIn_app (goodIn_of _ (by decide +kernel)) ggX7_field_X5_putInOrder
theorem dX7_field_0 : decode cX7_field 0 = .ok (.aload_n 0, 1) := by decide +kernel
theorem dX7_field_1 : decode cX7_field 1 = .ok (.iload_n 1, 1) := by decide +kernel
theorem dX7_field_2 : decode cX7_field 2 = .ok (.invokevirtual 91, 3) := by decide +kernel
theorem dX7_field_5 : decode cX7_field 5 = .ok (.astore 6, 2) := by decide +kernel
theorem dX7_field_7 : decode cX7_field 7 = .ok (.aload 6, 2) := by decide +kernel
theorem dX7_field_9 : decode cX7_field 9 = .ok (.ifnull 38, 3) := by decide +kernel
theorem dX7_field_12 : decode cX7_field 12 = .ok (.iload_n 2, 1) := by decide +kernel
theorem dX7_field_13 : decode cX7_field 13 = .ok (.iconst 0, 1) := by decide +kernel
theorem dX7_field_14 : decode cX7_field 14 = .ok (.bipush 9, 2) := by decide +kernel
theorem dX7_field_16 : decode cX7_field 16 = .ok (.invokestatic 95, 3) := by decide +kernel
theorem dX7_field_19 : decode cX7_field 19 = .ok (.ifCond .eq 28, 3) := by decide +kernel
theorem dX7_field_22 : decode cX7_field 22 = .ok (.iload_n 3, 1) := by decide +kernel
theorem dX7_field_23 : decode cX7_field 23 = .ok (.iconst 1, 1) := by decide +kernel
theorem dX7_field_24 : decode cX7_field 24 = .ok (.bipush 20, 2) := by decide +kernel
theorem dX7_field_26 : decode cX7_field 26 = .ok (.invokestatic 95, 3) := by decide +kernel
theorem dX7_field_29 : decode cX7_field 29 = .ok (.ifCond .eq 18, 3) := by decide +kernel
theorem dX7_field_32 : decode cX7_field 32 = .ok (.iload 4, 2) := by decide +kernel
theorem dX7_field_34 : decode cX7_field 34 = .ok (.iconst 0, 1) := by decide +kernel
theorem dX7_field_35 : decode cX7_field 35 = .ok (.bipush 9, 2) := by decide +kernel
theorem dX7_field_37 : decode cX7_field 37 = .ok (.invokestatic 95, 3) := by decide +kernel
theorem dX7_field_40 : decode cX7_field 40 = .ok (.ifCond .eq 7, 3) := by decide +kernel
theorem dX7_field_43 : decode cX7_field 43 = .ok (.iconst 1, 1) := by decide +kernel
theorem dX7_field_44 : decode cX7_field 44 = .ok (.goto 4, 3) := by decide +kernel
theorem dX7_field_47 : decode cX7_field 47 = .ok (.iconst 0, 1) := by decide +kernel
theorem dX7_field_48 : decode cX7_field 48 = .ok (.istore 7, 2) := by decide +kernel
theorem dX7_field_50 : decode cX7_field 50 = .ok (.aload_n 0, 1) := by decide +kernel
theorem dX7_field_51 : decode cX7_field 51 = .ok (.getfield 39, 3) := by decide +kernel
theorem dX7_field_54 : decode cX7_field 54 = .ok (.istore 8, 2) := by decide +kernel
theorem dX7_field_56 : decode cX7_field 56 = .ok (.iload 7, 2) := by decide +kernel
theorem dX7_field_58 : decode cX7_field 58 = .ok (.ifCond .eq 13, 3) := by decide +kernel
theorem dX7_field_61 : decode cX7_field 61 = .ok (.iload 8, 2) := by decide +kernel
theorem dX7_field_63 : decode cX7_field 63 = .ok (.aload_n 0, 1) := by decide +kernel
theorem dX7_field_64 : decode cX7_field 64 = .ok (.getfield 11, 3) := by decide +kernel
theorem dX7_field_67 : decode cX7_field 67 = .ok (.arraylength, 1) := by decide +kernel
theorem dX7_field_68 : decode cX7_field 68 = .ok (.if_icmp .lt 5, 3) := by decide +kernel
theorem dX7_field_71 : decode cX7_field 71 = .ok (.iconst (-1), 1) := by decide +kernel
theorem dX7_field_72 : decode cX7_field 72 = .ok (.ireturn, 1) := by decide +kernel
theorem dX7_field_73 : decode cX7_field 73 = .ok (.new 9, 3) := by decide +kernel
theorem dX7_field_76 : decode cX7_field 76 = .ok (.dup, 1) := by decide +kernel
theorem dX7_field_77 : decode cX7_field 77 = .ok (.iload 8, 2) := by decide +kernel
theorem dX7_field_79 : decode cX7_field 79 = .ok (.iload_n 1, 1) := by decide +kernel
theorem dX7_field_80 : decode cX7_field 80 = .ok (.iload_n 2, 1) := by decide +kernel
theorem dX7_field_81 : decode cX7_field 81 = .ok (.iload_n 3, 1) := by decide +kernel
theorem dX7_field_82 : decode cX7_field 82 = .ok (.iload 4, 2) := by decide +kernel
theorem dX7_field_84 : decode cX7_field 84 = .ok (.iload 5, 2) := by decide +kernel
theorem dX7_field_86 : decode cX7_field 86 = .ok (.invokespecial 125, 3) := by decide +kernel
theorem dX7_field_89 : decode cX7_field 89 = .ok (.astore 9, 2) := by decide +kernel
theorem dX7_field_91 : decode cX7_field 91 = .ok (.aload_n 0, 1) := by decide +kernel
theorem dX7_field_92 : decode cX7_field 92 = .ok (.getfield 11, 3) := by decide +kernel
theorem dX7_field_95 : decode cX7_field 95 = .ok (.iload 8, 2) := by decide +kernel
theorem dX7_field_97 : decode cX7_field 97 = .ok (.aload 9, 2) := by decide +kernel
theorem dX7_field_99 : decode cX7_field 99 = .ok (.aastore, 1) := by decide +kernel
theorem dX7_field_100 : decode cX7_field 100 = .ok (.aload_n 0, 1) := by decide +kernel
theorem dX7_field_101 : decode cX7_field 101 = .ok (.iload 8, 2) := by decide +kernel
theorem dX7_field_103 : decode cX7_field 103 = .ok (.iconst 1, 1) := by decide +kernel
theorem dX7_field_104 : decode cX7_field 104 = .ok (.iadd, 1) := by decide +kernel
theorem dX7_field_105 : decode cX7_field 105 = .ok (.putfield 39, 3) := by decide +kernel
theorem dX7_field_108 : decode cX7_field 108 = .ok (.aload 6, 2) := by decide +kernel
theorem dX7_field_110 : decode cX7_field 110 = .ok (.aload 9, 2) := by decide +kernel
theorem dX7_field_112 : decode cX7_field 112 = .ok (.aload_n 0, 1) := by decide +kernel
theorem dX7_field_113 : decode cX7_field 113 = .ok (.getfield 25, 3) := by decide +kernel
theorem dX7_field_116 : decode cX7_field 116 = .ok (.invokevirtual 128, 3) := by decide +kernel
theorem dX7_field_119 : decode cX7_field 119 = .ok (.iload 8, 2) := by decide +kernel
theorem dX7_field_121 : decode cX7_field 121 = .ok (.ireturn, 1) := by decide +kernel
set_option maxRecDepth 20000 in
theorem ggX7_open_X7_tankAt : GoodIn wsX7_open wsX7_tankAt := goodIn_r _ [7, 8, 27, 28, 29, 30, 31, 32, 33, 34, 35, 36, 37, 38, 39, 40, 41] (by decide +kernel) (by decide +kernel)
set_option maxRecDepth 20000 in
theorem gX7_open_X7_tankAt : GoodIn wsX7_open (wsV RX7 91 RX7 yX7_tankAt wsX7_tankAt) := goodIn_app (goodIn_of _ (by decide +kernel)) ggX7_open_X7_tankAt
set_option maxRecDepth 20000 in
theorem ggX7_open_X7_isWithin : GoodIn wsX7_open wsX7_isWithin := goodIn_r _ [11] (by decide +kernel) (by decide +kernel)
set_option maxRecDepth 20000 in
theorem gX7_open_X7_isWithin : GoodIn wsX7_open (va_wsS RX7 95 yX7_isWithin wsX7_isWithin) := goodIn_app (goodIn_of _ (by decide +kernel)) ggX7_open_X7_isWithin
theorem dX7_open_0 : decode cX7_open 0 = .ok (.aload_n 0, 1) := by decide +kernel
theorem dX7_open_1 : decode cX7_open 1 = .ok (.iload_n 1, 1) := by decide +kernel
theorem dX7_open_2 : decode cX7_open 2 = .ok (.invokevirtual 91, 3) := by decide +kernel
theorem dX7_open_5 : decode cX7_open 5 = .ok (.astore_n 3, 1) := by decide +kernel
theorem dX7_open_6 : decode cX7_open 6 = .ok (.aload_n 3, 1) := by decide +kernel
theorem dX7_open_7 : decode cX7_open 7 = .ok (.ifnull 13, 3) := by decide +kernel
theorem dX7_open_10 : decode cX7_open 10 = .ok (.iload_n 2, 1) := by decide +kernel
theorem dX7_open_11 : decode cX7_open 11 = .ok (.iconst 0, 1) := by decide +kernel
theorem dX7_open_12 : decode cX7_open 12 = .ok (.bipush 20, 2) := by decide +kernel
theorem dX7_open_14 : decode cX7_open 14 = .ok (.invokestatic 95, 3) := by decide +kernel
theorem dX7_open_17 : decode cX7_open 17 = .ok (.ifCond .ne 5, 3) := by decide +kernel
theorem dX7_open_20 : decode cX7_open 20 = .ok (.iconst 0, 1) := by decide +kernel
theorem dX7_open_21 : decode cX7_open 21 = .ok (.ireturn, 1) := by decide +kernel
theorem dX7_open_22 : decode cX7_open 22 = .ok (.aload_n 3, 1) := by decide +kernel
theorem dX7_open_23 : decode cX7_open 23 = .ok (.getfield 108, 3) := by decide +kernel
theorem dX7_open_26 : decode cX7_open 26 = .ok (.iload_n 2, 1) := by decide +kernel
theorem dX7_open_27 : decode cX7_open 27 = .ok (.putfield 132, 3) := by decide +kernel
theorem dX7_open_30 : decode cX7_open 30 = .ok (.iconst 1, 1) := by decide +kernel
theorem dX7_open_31 : decode cX7_open 31 = .ok (.ireturn, 1) := by decide +kernel
set_option maxRecDepth 20000 in
theorem ggX7_mend_X7_tankAt : GoodIn wsX7_mend wsX7_tankAt := goodIn_r _ [8, 9, 28, 29, 30, 31, 32, 33, 34, 35, 36, 37, 38, 39, 40, 41, 42] (by decide +kernel) (by decide +kernel)
set_option maxRecDepth 20000 in
theorem gX7_mend_X7_tankAt : GoodIn wsX7_mend (wsV RX7 91 RX7 yX7_tankAt wsX7_tankAt) := goodIn_app (goodIn_of _ (by decide +kernel)) ggX7_mend_X7_tankAt
set_option maxRecDepth 20000 in
theorem ggX7_mend_X7_isWithin : GoodIn wsX7_mend wsX7_isWithin := goodIn_r _ [12] (by decide +kernel) (by decide +kernel)
set_option maxRecDepth 20000 in
theorem gX7_mend_X7_isWithin : GoodIn wsX7_mend (va_wsS RX7 95 yX7_isWithin wsX7_isWithin) := goodIn_app (goodIn_of _ (by decide +kernel)) ggX7_mend_X7_isWithin
theorem dX7_mend_0 : decode cX7_mend 0 = .ok (.aload_n 0, 1) := by decide +kernel
theorem dX7_mend_1 : decode cX7_mend 1 = .ok (.iload_n 1, 1) := by decide +kernel
theorem dX7_mend_2 : decode cX7_mend 2 = .ok (.invokevirtual 91, 3) := by decide +kernel
theorem dX7_mend_5 : decode cX7_mend 5 = .ok (.astore_n 3, 1) := by decide +kernel
theorem dX7_mend_6 : decode cX7_mend 6 = .ok (.aload_n 3, 1) := by decide +kernel
theorem dX7_mend_7 : decode cX7_mend 7 = .ok (.ifnull 14, 3) := by decide +kernel
theorem dX7_mend_10 : decode cX7_mend 10 = .ok (.iload_n 2, 1) := by decide +kernel
theorem dX7_mend_11 : decode cX7_mend 11 = .ok (.iconst 0, 1) := by decide +kernel
theorem dX7_mend_12 : decode cX7_mend 12 = .ok (.sipush 500, 3) := by decide +kernel
theorem dX7_mend_15 : decode cX7_mend 15 = .ok (.invokestatic 95, 3) := by decide +kernel
theorem dX7_mend_18 : decode cX7_mend 18 = .ok (.ifCond .ne 5, 3) := by decide +kernel
theorem dX7_mend_21 : decode cX7_mend 21 = .ok (.iconst 0, 1) := by decide +kernel
theorem dX7_mend_22 : decode cX7_mend 22 = .ok (.ireturn, 1) := by decide +kernel
theorem dX7_mend_23 : decode cX7_mend 23 = .ok (.aload_n 3, 1) := by decide +kernel
theorem dX7_mend_24 : decode cX7_mend 24 = .ok (.getfield 108, 3) := by decide +kernel
theorem dX7_mend_27 : decode cX7_mend 27 = .ok (.iconst 0, 1) := by decide +kernel
theorem dX7_mend_28 : decode cX7_mend 28 = .ok (.putfield 112, 3) := by decide +kernel
theorem dX7_mend_31 : decode cX7_mend 31 = .ok (.aload_n 3, 1) := by decide +kernel
theorem dX7_mend_32 : decode cX7_mend 32 = .ok (.iload_n 2, 1) := by decide +kernel
theorem dX7_mend_33 : decode cX7_mend 33 = .ok (.putfield 105, 3) := by decide +kernel
theorem dX7_mend_36 : decode cX7_mend 36 = .ok (.iconst 1, 1) := by decide +kernel
theorem dX7_mend_37 : decode cX7_mend 37 = .ok (.ireturn, 1) := by decide +kernel
set_option maxRecDepth 20000 in
theorem ggX7_dredge_X7_tankAt : GoodIn wsX7_dredge wsX7_tankAt := goodIn_r _ [6, 7, 21, 22, 23, 24, 25, 26, 27, 28, 29, 30, 31, 32, 33, 34, 35] (by decide +kernel) (by decide +kernel)
set_option maxRecDepth 20000 in
theorem gX7_dredge_X7_tankAt : GoodIn wsX7_dredge (wsV RX7 91 RX7 yX7_tankAt wsX7_tankAt) := goodIn_app (goodIn_of _ (by decide +kernel)) ggX7_dredge_X7_tankAt
set_option maxRecDepth 20000 in
theorem ggX7_dredge_X7_isWithin : GoodIn wsX7_dredge wsX7_isWithin := goodIn_r _ [10] (by decide +kernel) (by decide +kernel)
set_option maxRecDepth 20000 in
theorem gX7_dredge_X7_isWithin : GoodIn wsX7_dredge (va_wsS RX7 95 yX7_isWithin wsX7_isWithin) := goodIn_app (goodIn_of _ (by decide +kernel)) ggX7_dredge_X7_isWithin
theorem dX7_dredge_0 : decode cX7_dredge 0 = .ok (.aload_n 0, 1) := by decide +kernel
theorem dX7_dredge_1 : decode cX7_dredge 1 = .ok (.iload_n 1, 1) := by decide +kernel
theorem dX7_dredge_2 : decode cX7_dredge 2 = .ok (.invokevirtual 91, 3) := by decide +kernel
theorem dX7_dredge_5 : decode cX7_dredge 5 = .ok (.astore_n 3, 1) := by decide +kernel
theorem dX7_dredge_6 : decode cX7_dredge 6 = .ok (.aload_n 3, 1) := by decide +kernel
theorem dX7_dredge_7 : decode cX7_dredge 7 = .ok (.ifnull 15, 3) := by decide +kernel
theorem dX7_dredge_10 : decode cX7_dredge 10 = .ok (.iload_n 2, 1) := by decide +kernel
theorem dX7_dredge_11 : decode cX7_dredge 11 = .ok (.iconst 1, 1) := by decide +kernel
theorem dX7_dredge_12 : decode cX7_dredge 12 = .ok (.aload_n 3, 1) := by decide +kernel
theorem dX7_dredge_13 : decode cX7_dredge 13 = .ok (.getfield 135, 3) := by decide +kernel
theorem dX7_dredge_16 : decode cX7_dredge 16 = .ok (.invokestatic 95, 3) := by decide +kernel
theorem dX7_dredge_19 : decode cX7_dredge 19 = .ok (.ifCond .ne 5, 3) := by decide +kernel
theorem dX7_dredge_22 : decode cX7_dredge 22 = .ok (.iconst (-1), 1) := by decide +kernel
theorem dX7_dredge_23 : decode cX7_dredge 23 = .ok (.ireturn, 1) := by decide +kernel
theorem dX7_dredge_24 : decode cX7_dredge 24 = .ok (.aload_n 3, 1) := by decide +kernel
theorem dX7_dredge_25 : decode cX7_dredge 25 = .ok (.dup, 1) := by decide +kernel
theorem dX7_dredge_26 : decode cX7_dredge 26 = .ok (.getfield 135, 3) := by decide +kernel
theorem dX7_dredge_29 : decode cX7_dredge 29 = .ok (.iload_n 2, 1) := by decide +kernel
theorem dX7_dredge_30 : decode cX7_dredge 30 = .ok (.isub, 1) := by decide +kernel
theorem dX7_dredge_31 : decode cX7_dredge 31 = .ok (.putfield 135, 3) := by decide +kernel
theorem dX7_dredge_34 : decode cX7_dredge 34 = .ok (.aload_n 3, 1) := by decide +kernel
theorem dX7_dredge_35 : decode cX7_dredge 35 = .ok (.getfield 135, 3) := by decide +kernel
theorem dX7_dredge_38 : decode cX7_dredge 38 = .ok (.ireturn, 1) := by decide +kernel
set_option maxRecDepth 20000 in
theorem ggX7_feed_X6_putFour : GoodIn wsX7_feed wsX6_putFour := goodIn_r _ [7, 8, 9, 10, 6, 11, 12, 13, 29, 30, 31, 32, 33, 34] (by decide +kernel) (by decide +kernel)
set_option maxRecDepth 20000 in
theorem gX7_feed_X6_putFour : GoodIn wsX7_feed (wsV RX7 141 RX6 yX6_putFour wsX6_putFour) := goodIn_app (goodIn_of _ (by decide +kernel)) ggX7_feed_X6_putFour
theorem dX7_feed_0 : decode cX7_feed 0 = .ok (.aload_n 0, 1) := by decide +kernel
theorem dX7_feed_1 : decode cX7_feed 1 = .ok (.getfield 18, 3) := by decide +kernel
theorem dX7_feed_4 : decode cX7_feed 4 = .ok (.getfield 138, 3) := by decide +kernel
theorem dX7_feed_7 : decode cX7_feed 7 = .ok (.bipush 20, 2) := by decide +kernel
theorem dX7_feed_9 : decode cX7_feed 9 = .ok (.iadd, 1) := by decide +kernel
theorem dX7_feed_10 : decode cX7_feed 10 = .ok (.sipush 300, 3) := by decide +kernel
theorem dX7_feed_13 : decode cX7_feed 13 = .ok (.if_icmp .le 5, 3) := by decide +kernel
theorem dX7_feed_16 : decode cX7_feed 16 = .ok (.iconst (-1), 1) := by decide +kernel
theorem dX7_feed_17 : decode cX7_feed 17 = .ok (.ireturn, 1) := by decide +kernel
theorem dX7_feed_18 : decode cX7_feed 18 = .ok (.aload_n 0, 1) := by decide +kernel
theorem dX7_feed_19 : decode cX7_feed 19 = .ok (.getfield 18, 3) := by decide +kernel
theorem dX7_feed_22 : decode cX7_feed 22 = .ok (.iload_n 1, 1) := by decide +kernel
theorem dX7_feed_23 : decode cX7_feed 23 = .ok (.invokevirtual 141, 3) := by decide +kernel
theorem dX7_feed_26 : decode cX7_feed 26 = .ok (.aload_n 0, 1) := by decide +kernel
theorem dX7_feed_27 : decode cX7_feed 27 = .ok (.getfield 18, 3) := by decide +kernel
theorem dX7_feed_30 : decode cX7_feed 30 = .ok (.iload_n 2, 1) := by decide +kernel
theorem dX7_feed_31 : decode cX7_feed 31 = .ok (.invokevirtual 141, 3) := by decide +kernel
theorem dX7_feed_34 : decode cX7_feed 34 = .ok (.aload_n 0, 1) := by decide +kernel
theorem dX7_feed_35 : decode cX7_feed 35 = .ok (.getfield 18, 3) := by decide +kernel
theorem dX7_feed_38 : decode cX7_feed 38 = .ok (.iload_n 3, 1) := by decide +kernel
theorem dX7_feed_39 : decode cX7_feed 39 = .ok (.invokevirtual 141, 3) := by decide +kernel
theorem dX7_feed_42 : decode cX7_feed 42 = .ok (.aload_n 0, 1) := by decide +kernel
theorem dX7_feed_43 : decode cX7_feed 43 = .ok (.getfield 18, 3) := by decide +kernel
theorem dX7_feed_46 : decode cX7_feed 46 = .ok (.iload 4, 2) := by decide +kernel
theorem dX7_feed_48 : decode cX7_feed 48 = .ok (.invokevirtual 141, 3) := by decide +kernel
theorem dX7_feed_51 : decode cX7_feed 51 = .ok (.aload_n 0, 1) := by decide +kernel
theorem dX7_feed_52 : decode cX7_feed 52 = .ok (.getfield 18, 3) := by decide +kernel
theorem dX7_feed_55 : decode cX7_feed 55 = .ok (.iload 5, 2) := by decide +kernel
theorem dX7_feed_57 : decode cX7_feed 57 = .ok (.invokevirtual 141, 3) := by decide +kernel
theorem dX7_feed_60 : decode cX7_feed 60 = .ok (.aload_n 0, 1) := by decide +kernel
theorem dX7_feed_61 : decode cX7_feed 61 = .ok (.getfield 18, 3) := by decide +kernel
theorem dX7_feed_64 : decode cX7_feed 64 = .ok (.getfield 138, 3) := by decide +kernel
theorem dX7_feed_67 : decode cX7_feed 67 = .ok (.ireturn, 1) := by decide +kernel
set_option maxRecDepth 20000 in
theorem ggX7_custom_X7_isWithin : GoodIn wsX7_custom wsX7_isWithin := goodIn_r _ [10] (by decide +kernel) (by decide +kernel)
set_option maxRecDepth 20000 in
theorem gX7_custom_X7_isWithin : GoodIn wsX7_custom (va_wsS RX7 95 yX7_isWithin wsX7_isWithin) := goodIn_app (goodIn_of _ (by decide +kernel)) ggX7_custom_X7_isWithin
set_option maxRecDepth 20000 in
theorem ggX7_custom_X6_faultReading : GoodIn wsX7_custom wsX6_faultReading := goodIn_r _ [15, 16, 17, 18, 19, 20, 21, 22, 23, 24, 25, 26, 27, 28, 29, 30, 31, 32, 33, 14, 34, 35, 36, 37, 38, 39, 40, 41, 42, 43, 44, 45, 46, 47, 48, 49, 50, 51, 52, 53, 54, 55, 56, 57, 58, 59, 60, 61, 62, 63, 64, 65, 66, 67, 68, 69, 70, 71, 72, 73, 74, 75, 76, 77, 78, 79, 80, 81, 82, 83, 84, 85, 86, 87, 88, 89, 90, 91, 92, 93, 94, 95, 96, 97, 98, 99, 100, 101, 102, 103, 104, 105, 106, 107, 108, 109, 110, 111, 112, 113, 114, 115, 116, 117, 118, 119, 120, 121, 181, 182, 183, 184, 185, 186, 187, 188, 189, 190, 191, 192] (by decide +kernel) (by decide +kernel)
set_option maxRecDepth 20000 in
theorem gX7_custom_X6_faultReading : GoodIn wsX7_custom (wsV RX7 145 RX6 yX6_faultReading wsX6_faultReading) := goodIn_app (goodIn_of _ (by decide +kernel)) ggX7_custom_X6_faultReading
set_option maxRecDepth 20000 in
theorem ggX7_custom_X0_becomeAs : GoodIn wsX7_custom wsX0_becomeAs := goodIn_r _ [125, 26, 117, 27, 28, 29, 30, 126, 22, 23, 24, 25, 127, 114, 115, 116, 187, 188, 189, 190, 191, 192] (by decide +kernel) (by decide +kernel)
set_option maxRecDepth 20000 in
theorem gX7_custom_X0_becomeAs : GoodIn wsX7_custom (wsV RX7 149 RX0 yX0_becomeAs wsX0_becomeAs) := goodIn_app (goodIn_of _ (by decide +kernel)) ggX7_custom_X0_becomeAs
set_option maxRecDepth 20000 in
theorem ggX7_custom_X7_orderAnew : GoodIn wsX7_custom wsX7_orderAnew := goodIn_r _ [131, 132, 133, 134, 135, 136, 137, 5, 138, 139, 140, 9, 141, 142, 143, 144, 145, 146, 147, 148, 149, 150, 151, 152, 153, 154, 155, 156, 157, 24, 158, 26, 117, 159, 160, 161, 162, 163, 164, 165, 166, 167, 168, 169, 170, 171, 172, 173, 174, 175, 176, 177, 178, 179, 180, 193, 194, 195, 196, 197, 198, 199, 200, 201, 202, 203, 204, 205, 206, 207, 208, 209, 210, 211, 212, 213, 214, 215, 216, 217, 218, 187, 188, 189, 190, 191, 192] (by decide +kernel) (by decide +kernel)
set_option maxRecDepth 20000 in
theorem gX7_custom_X7_orderAnew : GoodIn wsX7_custom (wsV RX7 153 RX7 yX7_orderAnew wsX7_orderAnew) := goodIn_app (goodIn_of _ (by decide +kernel)) ggX7_custom_X7_orderAnew
theorem dX7_custom_0 : decode cX7_custom 0 = .ok (.iload_n 1, 1) := by decide +kernel
theorem dX7_custom_1 : decode cX7_custom 1 = .ok (.iconst 0, 1) := by decide +kernel
theorem dX7_custom_2 : decode cX7_custom 2 = .ok (.aload_n 0, 1) := by decide +kernel
theorem dX7_custom_3 : decode cX7_custom 3 = .ok (.getfield 18, 3) := by decide +kernel
theorem dX7_custom_6 : decode cX7_custom 6 = .ok (.getfield 138, 3) := by decide +kernel
theorem dX7_custom_9 : decode cX7_custom 9 = .ok (.invokestatic 95, 3) := by decide +kernel
theorem dX7_custom_12 : decode cX7_custom 12 = .ok (.ifCond .ne 6, 3) := by decide +kernel
theorem dX7_custom_15 : decode cX7_custom 15 = .ok (.bipush (-2), 2) := by decide +kernel
theorem dX7_custom_17 : decode cX7_custom 17 = .ok (.ireturn, 1) := by decide +kernel
theorem dX7_custom_18 : decode cX7_custom 18 = .ok (.aload_n 0, 1) := by decide +kernel
theorem dX7_custom_19 : decode cX7_custom 19 = .ok (.aload_n 0, 1) := by decide +kernel
theorem dX7_custom_20 : decode cX7_custom 20 = .ok (.getfield 18, 3) := by decide +kernel
theorem dX7_custom_23 : decode cX7_custom 23 = .ok (.aload_n 0, 1) := by decide +kernel
theorem dX7_custom_24 : decode cX7_custom 24 = .ok (.getfield 29, 3) := by decide +kernel
theorem dX7_custom_27 : decode cX7_custom 27 = .ok (.iload_n 1, 1) := by decide +kernel
theorem dX7_custom_28 : decode cX7_custom 28 = .ok (.invokevirtual 145, 3) := by decide +kernel
theorem dX7_custom_31 : decode cX7_custom 31 = .ok (.putfield 52, 3) := by decide +kernel
theorem dX7_custom_34 : decode cX7_custom 34 = .ok (.aload_n 0, 1) := by decide +kernel
theorem dX7_custom_35 : decode cX7_custom 35 = .ok (.getfield 18, 3) := by decide +kernel
theorem dX7_custom_38 : decode cX7_custom 38 = .ok (.iconst 0, 1) := by decide +kernel
theorem dX7_custom_39 : decode cX7_custom 39 = .ok (.putfield 138, 3) := by decide +kernel
theorem dX7_custom_42 : decode cX7_custom 42 = .ok (.aload_n 0, 1) := by decide +kernel
theorem dX7_custom_43 : decode cX7_custom 43 = .ok (.getfield 52, 3) := by decide +kernel
theorem dX7_custom_46 : decode cX7_custom 46 = .ok (.iconst (-1), 1) := by decide +kernel
theorem dX7_custom_47 : decode cX7_custom 47 = .ok (.if_icmp .eq 5, 3) := by decide +kernel
theorem dX7_custom_50 : decode cX7_custom 50 = .ok (.iconst (-1), 1) := by decide +kernel
theorem dX7_custom_51 : decode cX7_custom 51 = .ok (.ireturn, 1) := by decide +kernel
theorem dX7_custom_52 : decode cX7_custom 52 = .ok (.aload_n 0, 1) := by decide +kernel
theorem dX7_custom_53 : decode cX7_custom 53 = .ok (.getfield 25, 3) := by decide +kernel
theorem dX7_custom_56 : decode cX7_custom 56 = .ok (.aload_n 0, 1) := by decide +kernel
theorem dX7_custom_57 : decode cX7_custom 57 = .ok (.getfield 29, 3) := by decide +kernel
theorem dX7_custom_60 : decode cX7_custom 60 = .ok (.invokevirtual 149, 3) := by decide +kernel
theorem dX7_custom_63 : decode cX7_custom 63 = .ok (.aload_n 0, 1) := by decide +kernel
theorem dX7_custom_64 : decode cX7_custom 64 = .ok (.invokevirtual 153, 3) := by decide +kernel
theorem dX7_custom_67 : decode cX7_custom 67 = .ok (.aload_n 0, 1) := by decide +kernel
theorem dX7_custom_68 : decode cX7_custom 68 = .ok (.getfield 25, 3) := by decide +kernel
theorem dX7_custom_71 : decode cX7_custom 71 = .ok (.getfield 156, 3) := by decide +kernel
theorem dX7_custom_74 : decode cX7_custom 74 = .ok (.ireturn, 1) := by decide +kernel
theorem dX7_fault_0 : decode cX7_fault 0 = .ok (.aload_n 0, 1) := by decide +kernel
theorem dX7_fault_1 : decode cX7_fault 1 = .ok (.getfield 52, 3) := by decide +kernel
theorem dX7_fault_4 : decode cX7_fault 4 = .ok (.ireturn, 1) := by decide +kernel
set_option maxRecDepth 20000 in
theorem ggX7_day_X7_isWithin : GoodIn wsX7_day wsX7_isWithin := goodIn_r _ [9] (by decide +kernel) (by decide +kernel)
set_option maxRecDepth 20000 in
theorem gX7_day_X7_isWithin : GoodIn wsX7_day (va_wsS RX7 95 yX7_isWithin wsX7_isWithin) := goodIn_app (goodIn_of _ (by decide +kernel)) ggX7_day_X7_isWithin
set_option maxRecDepth 20000 in
theorem ggX7_day_X7_addSilt : GoodIn wsX7_day wsX7_addSilt := goodIn_r _ [13, 3, 14, 15, 16, 17, 18, 19, 20, 21, 155, 156, 157, 158, 159, 160, 161, 162, 163, 164, 165, 166, 167, 168, 169, 170, 171, 172, 173, 174, 175, 176, 177, 178, 179, 180, 181, 182, 183] (by decide +kernel) (by decide +kernel)
set_option maxRecDepth 20000 in
theorem gX7_day_X7_addSilt : GoodIn wsX7_day (wsV RX7 159 RX7 yX7_addSilt wsX7_addSilt) := goodIn_app (goodIn_of _ (by decide +kernel)) ggX7_day_X7_addSilt
set_option maxRecDepth 20000 in
theorem ggX7_day_X2_startFromNow : GoodIn wsX7_day wsX2_startFromNow := goodIn_r _ [26, 27, 28, 29, 30, 31, 32, 33, 34, 35, 36, 37, 38, 39, 40, 170, 171, 172, 173, 174, 175, 176, 177, 178, 179, 180, 181, 182, 183, 184, 185, 186, 187, 188] (by decide +kernel) (by decide +kernel)
set_option maxRecDepth 20000 in
theorem gX7_day_X2_startFromNow : GoodIn wsX7_day (wsV RX7 162 RX2 yX2_startFromNow wsX2_startFromNow) := goodIn_app (goodIn_of _ (by decide +kernel)) ggX7_day_X2_startFromNow
set_option maxRecDepth 20000 in
theorem ggX7_day_X2_passDay : GoodIn wsX7_day wsX2_passDay := goodIn_r _ [44, 45, 46, 27, 47, 30, 48, 49, 50, 51, 52, 53, 54, 55, 56, 57, 58, 59, 60, 25, 61, 28, 62, 63, 64, 65, 19, 66, 67, 68, 69, 70, 71, 72, 73, 74, 75, 76, 77, 78, 79, 80, 81, 18, 20, 82, 83, 84, 85, 86, 87, 88, 89, 90, 91, 92, 93, 94, 95, 96, 97, 98, 99, 100, 101, 102, 103, 104, 105, 106, 107, 108, 109, 110, 111, 112, 113, 114, 115, 116, 117, 118, 119, 170, 171, 172, 173, 174, 175, 176, 177, 178, 179, 180, 181, 182, 183, 189, 190, 191, 192, 184, 185, 186, 187, 188, 193, 194, 195, 196, 197, 198, 199, 200, 201, 202, 203, 204, 205, 206, 207, 208, 209, 210] (by decide +kernel) (by decide +kernel)
set_option maxRecDepth 20000 in
theorem gX7_day_X2_passDay : GoodIn wsX7_day (wsV RX7 165 RX2 yX2_passDay wsX2_passDay) := goodIn_app (goodIn_of _ (by decide +kernel)) ggX7_day_X2_passDay
set_option maxRecDepth 20000 in
theorem ggX7_day_X7_keepTanks : GoodIn wsX7_day wsX7_keepTanks := goodIn_r _ [123, 3, 14, 124, 125, 126, 1, 127, 128, 21, 129, 130, 131, 132, 32, 33, 34, 35, 36, 37, 38, 39, 40, 155, 156, 157, 158, 159, 160, 161, 162, 163, 164, 165, 166, 167, 168, 169, 170, 171, 172, 173, 174, 175, 176, 177, 178, 179, 180, 181, 182, 183, 184, 185, 186, 187, 188] (by decide +kernel) (by decide +kernel)
set_option maxRecDepth 20000 in
theorem gX7_day_X7_keepTanks : GoodIn wsX7_day (wsV RX7 168 RX7 yX7_keepTanks wsX7_keepTanks) := goodIn_app (goodIn_of _ (by decide +kernel)) ggX7_day_X7_keepTanks
set_option maxRecDepth 20000 in
theorem ggX7_day_X7_keepFields : GoodIn wsX7_day wsX7_keepFields := goodIn_r _ [136, 137, 138, 139, 140, 8, 141, 142, 143, 144, 145, 111, 146, 113, 147, 148, 149, 150, 109, 110, 112, 114, 155, 156, 157, 158, 159, 160, 161, 162, 163, 164, 165, 166, 167, 168, 169, 199, 200, 201, 202, 203, 204, 205, 206, 207, 208, 209, 210] (by decide +kernel) (by decide +kernel)
set_option maxRecDepth 20000 in
theorem gX7_day_X7_keepFields : GoodIn wsX7_day (wsV RX7 171 RX7 yX7_keepFields wsX7_keepFields) := goodIn_app (goodIn_of _ (by decide +kernel)) ggX7_day_X7_keepFields
set_option maxRecDepth 20000 in
theorem ggX7_day_X4_addAll : GoodIn wsX7_day wsX4_addAll := goodIn_r _ [154, 54, 55, 56, 57, 189, 190, 191, 192] (by decide +kernel) (by decide +kernel)
set_option maxRecDepth 20000 in
theorem gX7_day_X4_addAll : GoodIn wsX7_day (wsV RX7 177 RX4 yX4_addAll wsX4_addAll) := goodIn_app (goodIn_of _ (by decide +kernel)) ggX7_day_X4_addAll
theorem dX7_day_0 : decode cX7_day 0 = .ok (.iload_n 1, 1) := by decide +kernel
theorem dX7_day_1 : decode cX7_day 1 = .ok (.iconst (-1), 1) := by decide +kernel
theorem dX7_day_2 : decode cX7_day 2 = .ok (.if_icmp .eq 13, 3) := by decide +kernel
theorem dX7_day_5 : decode cX7_day 5 = .ok (.iload_n 1, 1) := by decide +kernel
theorem dX7_day_6 : decode cX7_day 6 = .ok (.iconst 0, 1) := by decide +kernel
theorem dX7_day_7 : decode cX7_day 7 = .ok (.bipush 50, 2) := by decide +kernel
theorem dX7_day_9 : decode cX7_day 9 = .ok (.invokestatic 95, 3) := by decide +kernel
theorem dX7_day_12 : decode cX7_day 12 = .ok (.ifCond .eq 7, 3) := by decide +kernel
theorem dX7_day_15 : decode cX7_day 15 = .ok (.iconst 1, 1) := by decide +kernel
theorem dX7_day_16 : decode cX7_day 16 = .ok (.goto 4, 3) := by decide +kernel
theorem dX7_day_19 : decode cX7_day 19 = .ok (.iconst 0, 1) := by decide +kernel
theorem dX7_day_20 : decode cX7_day 20 = .ok (.istore_n 2, 1) := by decide +kernel
theorem dX7_day_21 : decode cX7_day 21 = .ok (.iload_n 2, 1) := by decide +kernel
theorem dX7_day_22 : decode cX7_day 22 = .ok (.ifCond .eq 13, 3) := by decide +kernel
theorem dX7_day_25 : decode cX7_day 25 = .ok (.aload_n 0, 1) := by decide +kernel
theorem dX7_day_26 : decode cX7_day 26 = .ok (.getfield 43, 3) := by decide +kernel
theorem dX7_day_29 : decode cX7_day 29 = .ok (.sipush 1000, 3) := by decide +kernel
theorem dX7_day_32 : decode cX7_day 32 = .ok (.if_icmp .lt 5, 3) := by decide +kernel
theorem dX7_day_35 : decode cX7_day 35 = .ok (.iconst (-1), 1) := by decide +kernel
theorem dX7_day_36 : decode cX7_day 36 = .ok (.ireturn, 1) := by decide +kernel
theorem dX7_day_37 : decode cX7_day 37 = .ok (.iload_n 1, 1) := by decide +kernel
theorem dX7_day_38 : decode cX7_day 38 = .ok (.iconst (-1), 1) := by decide +kernel
theorem dX7_day_39 : decode cX7_day 39 = .ok (.if_icmp .eq 8, 3) := by decide +kernel
theorem dX7_day_42 : decode cX7_day 42 = .ok (.aload_n 0, 1) := by decide +kernel
theorem dX7_day_43 : decode cX7_day 43 = .ok (.iload_n 1, 1) := by decide +kernel
theorem dX7_day_44 : decode cX7_day 44 = .ok (.putfield 46, 3) := by decide +kernel
theorem dX7_day_47 : decode cX7_day 47 = .ok (.aload_n 0, 1) := by decide +kernel
theorem dX7_day_48 : decode cX7_day 48 = .ok (.getfield 43, 3) := by decide +kernel
theorem dX7_day_51 : decode cX7_day 51 = .ok (.iconst 1, 1) := by decide +kernel
theorem dX7_day_52 : decode cX7_day 52 = .ok (.iadd, 1) := by decide +kernel
theorem dX7_day_53 : decode cX7_day 53 = .ok (.bipush 100, 2) := by decide +kernel
theorem dX7_day_55 : decode cX7_day 55 = .ok (.irem, 1) := by decide +kernel
theorem dX7_day_56 : decode cX7_day 56 = .ok (.ifCond .ne 7, 3) := by decide +kernel
theorem dX7_day_59 : decode cX7_day 59 = .ok (.aload_n 0, 1) := by decide +kernel
theorem dX7_day_60 : decode cX7_day 60 = .ok (.invokevirtual 159, 3) := by decide +kernel
theorem dX7_day_63 : decode cX7_day 63 = .ok (.aload_n 0, 1) := by decide +kernel
theorem dX7_day_64 : decode cX7_day 64 = .ok (.getfield 87, 3) := by decide +kernel
theorem dX7_day_67 : decode cX7_day 67 = .ok (.invokevirtual 162, 3) := by decide +kernel
theorem dX7_day_70 : decode cX7_day 70 = .ok (.aload_n 0, 1) := by decide +kernel
theorem dX7_day_71 : decode cX7_day 71 = .ok (.getfield 87, 3) := by decide +kernel
theorem dX7_day_74 : decode cX7_day 74 = .ok (.aload_n 0, 1) := by decide +kernel
theorem dX7_day_75 : decode cX7_day 75 = .ok (.getfield 46, 3) := by decide +kernel
theorem dX7_day_78 : decode cX7_day 78 = .ok (.invokevirtual 165, 3) := by decide +kernel
theorem dX7_day_81 : decode cX7_day 81 = .ok (.aload_n 0, 1) := by decide +kernel
theorem dX7_day_82 : decode cX7_day 82 = .ok (.invokevirtual 168, 3) := by decide +kernel
theorem dX7_day_85 : decode cX7_day 85 = .ok (.aload_n 0, 1) := by decide +kernel
theorem dX7_day_86 : decode cX7_day 86 = .ok (.invokevirtual 171, 3) := by decide +kernel
theorem dX7_day_89 : decode cX7_day 89 = .ok (.aload_n 0, 1) := by decide +kernel
theorem dX7_day_90 : decode cX7_day 90 = .ok (.getfield 35, 3) := by decide +kernel
theorem dX7_day_93 : decode cX7_day 93 = .ok (.aload_n 0, 1) := by decide +kernel
theorem dX7_day_94 : decode cX7_day 94 = .ok (.getfield 87, 3) := by decide +kernel
theorem dX7_day_97 : decode cX7_day 97 = .ok (.getfield 174, 3) := by decide +kernel
theorem dX7_day_100 : decode cX7_day 100 = .ok (.invokevirtual 177, 3) := by decide +kernel
theorem dX7_day_103 : decode cX7_day 103 = .ok (.aload_n 0, 1) := by decide +kernel
theorem dX7_day_104 : decode cX7_day 104 = .ok (.dup, 1) := by decide +kernel
theorem dX7_day_105 : decode cX7_day 105 = .ok (.getfield 43, 3) := by decide +kernel
theorem dX7_day_108 : decode cX7_day 108 = .ok (.iconst 1, 1) := by decide +kernel
theorem dX7_day_109 : decode cX7_day 109 = .ok (.iadd, 1) := by decide +kernel
theorem dX7_day_110 : decode cX7_day 110 = .ok (.putfield 43, 3) := by decide +kernel
theorem dX7_day_113 : decode cX7_day 113 = .ok (.aload_n 0, 1) := by decide +kernel
theorem dX7_day_114 : decode cX7_day 114 = .ok (.getfield 43, 3) := by decide +kernel
theorem dX7_day_117 : decode cX7_day 117 = .ok (.ireturn, 1) := by decide +kernel
set_option maxRecDepth 20000 in
theorem ggX7_told_X7_tankAt : GoodIn wsX7_told wsX7_tankAt := goodIn_r _ [16, 17, 47, 48, 49, 50, 51, 52, 53, 54, 55, 56, 57, 58, 59, 60, 61] (by decide +kernel) (by decide +kernel)
set_option maxRecDepth 20000 in
theorem gX7_told_X7_tankAt : GoodIn wsX7_told (wsV RX7 91 RX7 yX7_tankAt wsX7_tankAt) := goodIn_app (goodIn_of _ (by decide +kernel)) ggX7_told_X7_tankAt
set_option maxRecDepth 20000 in
theorem ggX7_told_X7_asNumber : GoodIn wsX7_told wsX7_asNumber := goodIn_r _ [20] (by decide +kernel) (by decide +kernel)
set_option maxRecDepth 20000 in
theorem gX7_told_X7_asNumber : GoodIn wsX7_told (va_wsS RX7 181 yX7_asNumber wsX7_asNumber) := goodIn_app (goodIn_of _ (by decide +kernel)) ggX7_told_X7_asNumber
set_option maxRecDepth 20000 in
theorem ggX7_told_X5_roomIf : GoodIn wsX7_told wsX5_roomIf := goodIn_r _ [25, 26, 27, 32, 33, 34, 35, 36, 37, 38, 39, 40, 41] (by decide +kernel) (by decide +kernel)
set_option maxRecDepth 20000 in
theorem gX7_told_X5_roomIf : GoodIn wsX7_told (wsV RX7 118 RX5 yX5_roomIf wsX5_roomIf) := goodIn_app (goodIn_of _ (by decide +kernel)) ggX7_told_X5_roomIf
set_option maxRecDepth 20000 in
theorem ggX7_told_X5_isBadYearWith : GoodIn wsX7_told wsX5_isBadYearWith := goodIn_r _ [31, 26, 32, 33, 34, 35, 36, 37, 38, 39, 40, 41] (by decide +kernel) (by decide +kernel)
set_option maxRecDepth 20000 in
theorem gX7_told_X5_isBadYearWith : GoodIn wsX7_told (wsV RX7 193 RX5 yX5_isBadYearWith wsX5_isBadYearWith) := goodIn_app (goodIn_of _ (by decide +kernel)) ggX7_told_X5_isBadYearWith
theorem dX7_told_0 : decode cX7_told 0 = .ok (.aload_n 0, 1) := by decide +kernel
theorem dX7_told_1 : decode cX7_told 1 = .ok (.iload_n 1, 1) := by decide +kernel
theorem dX7_told_2 : decode cX7_told 2 = .ok (.invokevirtual 91, 3) := by decide +kernel
theorem dX7_told_5 : decode cX7_told 5 = .ok (.astore_n 3, 1) := by decide +kernel
theorem dX7_told_6 : decode cX7_told 6 = .ok (.aload_n 3, 1) := by decide +kernel
theorem dX7_told_7 : decode cX7_told 7 = .ok (.ifnonnull 5, 3) := by decide +kernel
theorem dX7_told_10 : decode cX7_told 10 = .ok (.iconst (-1), 1) := by decide +kernel
theorem dX7_told_11 : decode cX7_told 11 = .ok (.ireturn, 1) := by decide +kernel
theorem dX7_told_12 : decode cX7_told 12 = .ok (.iload_n 2, 1) := by decide +kernel
theorem dX7_told_13 : decode cX7_told 13 = .ok (.tableswitch 158 0 11 #[63, 68, 73, 78, 86, 94, 99, 110, 122, 130, 138, 143], 63) := by decide +kernel
theorem dX7_told_76 : decode cX7_told 76 = .ok (.aload_n 3, 1) := by decide +kernel
theorem dX7_told_77 : decode cX7_told 77 = .ok (.getfield 99, 3) := by decide +kernel
theorem dX7_told_80 : decode cX7_told 80 = .ok (.ireturn, 1) := by decide +kernel
theorem dX7_told_81 : decode cX7_told 81 = .ok (.aload_n 3, 1) := by decide +kernel
theorem dX7_told_82 : decode cX7_told 82 = .ok (.getfield 102, 3) := by decide +kernel
theorem dX7_told_85 : decode cX7_told 85 = .ok (.ireturn, 1) := by decide +kernel
theorem dX7_told_86 : decode cX7_told 86 = .ok (.aload_n 3, 1) := by decide +kernel
theorem dX7_told_87 : decode cX7_told 87 = .ok (.getfield 105, 3) := by decide +kernel
theorem dX7_told_90 : decode cX7_told 90 = .ok (.ireturn, 1) := by decide +kernel
theorem dX7_told_91 : decode cX7_told 91 = .ok (.aload_n 3, 1) := by decide +kernel
theorem dX7_told_92 : decode cX7_told 92 = .ok (.getfield 108, 3) := by decide +kernel
theorem dX7_told_95 : decode cX7_told 95 = .ok (.getfield 122, 3) := by decide +kernel
theorem dX7_told_98 : decode cX7_told 98 = .ok (.ireturn, 1) := by decide +kernel
theorem dX7_told_99 : decode cX7_told 99 = .ok (.aload_n 3, 1) := by decide +kernel
theorem dX7_told_100 : decode cX7_told 100 = .ok (.getfield 108, 3) := by decide +kernel
theorem dX7_told_103 : decode cX7_told 103 = .ok (.getfield 132, 3) := by decide +kernel
theorem dX7_told_106 : decode cX7_told 106 = .ok (.ireturn, 1) := by decide +kernel
theorem dX7_told_107 : decode cX7_told 107 = .ok (.aload_n 3, 1) := by decide +kernel
theorem dX7_told_108 : decode cX7_told 108 = .ok (.getfield 135, 3) := by decide +kernel
theorem dX7_told_111 : decode cX7_told 111 = .ok (.ireturn, 1) := by decide +kernel
theorem dX7_told_112 : decode cX7_told 112 = .ok (.aload_n 3, 1) := by decide +kernel
theorem dX7_told_113 : decode cX7_told 113 = .ok (.getfield 108, 3) := by decide +kernel
theorem dX7_told_116 : decode cX7_told 116 = .ok (.getfield 112, 3) := by decide +kernel
theorem dX7_told_119 : decode cX7_told 119 = .ok (.invokestatic 181, 3) := by decide +kernel
theorem dX7_told_122 : decode cX7_told 122 = .ok (.ireturn, 1) := by decide +kernel
theorem dX7_told_123 : decode cX7_told 123 = .ok (.aload_n 3, 1) := by decide +kernel
theorem dX7_told_124 : decode cX7_told 124 = .ok (.aload_n 3, 1) := by decide +kernel
theorem dX7_told_125 : decode cX7_told 125 = .ok (.getfield 108, 3) := by decide +kernel
theorem dX7_told_128 : decode cX7_told 128 = .ok (.getfield 112, 3) := by decide +kernel
theorem dX7_told_131 : decode cX7_told 131 = .ok (.invokevirtual 118, 3) := by decide +kernel
theorem dX7_told_134 : decode cX7_told 134 = .ok (.ireturn, 1) := by decide +kernel
theorem dX7_told_135 : decode cX7_told 135 = .ok (.aload_n 3, 1) := by decide +kernel
theorem dX7_told_136 : decode cX7_told 136 = .ok (.getfield 108, 3) := by decide +kernel
theorem dX7_told_139 : decode cX7_told 139 = .ok (.getfield 184, 3) := by decide +kernel
theorem dX7_told_142 : decode cX7_told 142 = .ok (.ireturn, 1) := by decide +kernel
theorem dX7_told_143 : decode cX7_told 143 = .ok (.aload_n 3, 1) := by decide +kernel
theorem dX7_told_144 : decode cX7_told 144 = .ok (.getfield 108, 3) := by decide +kernel
theorem dX7_told_147 : decode cX7_told 147 = .ok (.getfield 187, 3) := by decide +kernel
theorem dX7_told_150 : decode cX7_told 150 = .ok (.ireturn, 1) := by decide +kernel
theorem dX7_told_151 : decode cX7_told 151 = .ok (.aload_n 3, 1) := by decide +kernel
theorem dX7_told_152 : decode cX7_told 152 = .ok (.getfield 190, 3) := by decide +kernel
theorem dX7_told_155 : decode cX7_told 155 = .ok (.ireturn, 1) := by decide +kernel
theorem dX7_told_156 : decode cX7_told 156 = .ok (.aload_n 3, 1) := by decide +kernel
theorem dX7_told_157 : decode cX7_told 157 = .ok (.aload_n 3, 1) := by decide +kernel
theorem dX7_told_158 : decode cX7_told 158 = .ok (.getfield 108, 3) := by decide +kernel
theorem dX7_told_161 : decode cX7_told 161 = .ok (.getfield 122, 3) := by decide +kernel
theorem dX7_told_164 : decode cX7_told 164 = .ok (.invokevirtual 193, 3) := by decide +kernel
theorem dX7_told_167 : decode cX7_told 167 = .ok (.invokestatic 181, 3) := by decide +kernel
theorem dX7_told_170 : decode cX7_told 170 = .ok (.ireturn, 1) := by decide +kernel
theorem dX7_told_171 : decode cX7_told 171 = .ok (.iconst (-1), 1) := by decide +kernel
theorem dX7_told_172 : decode cX7_told 172 = .ok (.ireturn, 1) := by decide +kernel
set_option maxRecDepth 20000 in
theorem ggX7_fieldOf_X7_fieldAt : GoodIn wsX7_fieldOf wsX7_fieldAt := goodIn_r _ [13, 14, 30, 31, 32, 33, 34, 35, 36, 37, 38, 39, 40, 41, 42, 43, 44] (by decide +kernel) (by decide +kernel)
set_option maxRecDepth 20000 in
theorem gX7_fieldOf_X7_fieldAt : GoodIn wsX7_fieldOf (wsV RX7 197 RX7 yX7_fieldAt wsX7_fieldAt) := goodIn_app (goodIn_of _ (by decide +kernel)) ggX7_fieldOf_X7_fieldAt
set_option maxRecDepth 20000 in
theorem ggX7_fieldOf_X7_asNumber : GoodIn wsX7_fieldOf wsX7_asNumber := goodIn_r _ [17] (by decide +kernel) (by decide +kernel)
set_option maxRecDepth 20000 in
theorem gX7_fieldOf_X7_asNumber : GoodIn wsX7_fieldOf (va_wsS RX7 181 yX7_asNumber wsX7_asNumber) := goodIn_app (goodIn_of _ (by decide +kernel)) ggX7_fieldOf_X7_asNumber
theorem dX7_fieldOf_0 : decode cX7_fieldOf 0 = .ok (.aload_n 0, 1) := by decide +kernel
theorem dX7_fieldOf_1 : decode cX7_fieldOf 1 = .ok (.iload_n 1, 1) := by decide +kernel
theorem dX7_fieldOf_2 : decode cX7_fieldOf 2 = .ok (.invokevirtual 197, 3) := by decide +kernel
theorem dX7_fieldOf_5 : decode cX7_fieldOf 5 = .ok (.astore_n 3, 1) := by decide +kernel
theorem dX7_fieldOf_6 : decode cX7_fieldOf 6 = .ok (.aload_n 3, 1) := by decide +kernel
theorem dX7_fieldOf_7 : decode cX7_fieldOf 7 = .ok (.ifnonnull 5, 3) := by decide +kernel
theorem dX7_fieldOf_10 : decode cX7_fieldOf 10 = .ok (.iconst (-1), 1) := by decide +kernel
theorem dX7_fieldOf_11 : decode cX7_fieldOf 11 = .ok (.ireturn, 1) := by decide +kernel
theorem dX7_fieldOf_12 : decode cX7_fieldOf 12 = .ok (.iload_n 2, 1) := by decide +kernel
theorem dX7_fieldOf_13 : decode cX7_fieldOf 13 = .ok (.tableswitch 90 0 7 #[47, 52, 57, 62, 67, 75, 80, 85], 47) := by decide +kernel
theorem dX7_fieldOf_60 : decode cX7_fieldOf 60 = .ok (.aload_n 3, 1) := by decide +kernel
theorem dX7_fieldOf_61 : decode cX7_fieldOf 61 = .ok (.getfield 201, 3) := by decide +kernel
theorem dX7_fieldOf_64 : decode cX7_fieldOf 64 = .ok (.ireturn, 1) := by decide +kernel
theorem dX7_fieldOf_65 : decode cX7_fieldOf 65 = .ok (.aload_n 3, 1) := by decide +kernel
theorem dX7_fieldOf_66 : decode cX7_fieldOf 66 = .ok (.getfield 204, 3) := by decide +kernel
theorem dX7_fieldOf_69 : decode cX7_fieldOf 69 = .ok (.ireturn, 1) := by decide +kernel
theorem dX7_fieldOf_70 : decode cX7_fieldOf 70 = .ok (.aload_n 3, 1) := by decide +kernel
theorem dX7_fieldOf_71 : decode cX7_fieldOf 71 = .ok (.getfield 207, 3) := by decide +kernel
theorem dX7_fieldOf_74 : decode cX7_fieldOf 74 = .ok (.ireturn, 1) := by decide +kernel
theorem dX7_fieldOf_75 : decode cX7_fieldOf 75 = .ok (.aload_n 3, 1) := by decide +kernel
theorem dX7_fieldOf_76 : decode cX7_fieldOf 76 = .ok (.getfield 210, 3) := by decide +kernel
theorem dX7_fieldOf_79 : decode cX7_fieldOf 79 = .ok (.ireturn, 1) := by decide +kernel
theorem dX7_fieldOf_80 : decode cX7_fieldOf 80 = .ok (.aload_n 3, 1) := by decide +kernel
theorem dX7_fieldOf_81 : decode cX7_fieldOf 81 = .ok (.getfield 213, 3) := by decide +kernel
theorem dX7_fieldOf_84 : decode cX7_fieldOf 84 = .ok (.invokestatic 181, 3) := by decide +kernel
theorem dX7_fieldOf_87 : decode cX7_fieldOf 87 = .ok (.ireturn, 1) := by decide +kernel
theorem dX7_fieldOf_88 : decode cX7_fieldOf 88 = .ok (.aload_n 3, 1) := by decide +kernel
theorem dX7_fieldOf_89 : decode cX7_fieldOf 89 = .ok (.getfield 216, 3) := by decide +kernel
theorem dX7_fieldOf_92 : decode cX7_fieldOf 92 = .ok (.ireturn, 1) := by decide +kernel
theorem dX7_fieldOf_93 : decode cX7_fieldOf 93 = .ok (.aload_n 3, 1) := by decide +kernel
theorem dX7_fieldOf_94 : decode cX7_fieldOf 94 = .ok (.getfield 219, 3) := by decide +kernel
theorem dX7_fieldOf_97 : decode cX7_fieldOf 97 = .ok (.ireturn, 1) := by decide +kernel
theorem dX7_fieldOf_98 : decode cX7_fieldOf 98 = .ok (.aload_n 3, 1) := by decide +kernel
theorem dX7_fieldOf_99 : decode cX7_fieldOf 99 = .ok (.getfield 222, 3) := by decide +kernel
theorem dX7_fieldOf_102 : decode cX7_fieldOf 102 = .ok (.ireturn, 1) := by decide +kernel
theorem dX7_fieldOf_103 : decode cX7_fieldOf 103 = .ok (.iconst (-1), 1) := by decide +kernel
theorem dX7_fieldOf_104 : decode cX7_fieldOf 104 = .ok (.ireturn, 1) := by decide +kernel
set_option maxRecDepth 20000 in
theorem ggX7_order_X7_tankAt : GoodIn wsX7_order wsX7_tankAt := goodIn_r _ [8, 9, 32, 33, 34, 35, 36, 37, 38, 39, 40, 41, 42, 43, 44, 45, 46] (by decide +kernel) (by decide +kernel)
set_option maxRecDepth 20000 in
theorem gX7_order_X7_tankAt : GoodIn wsX7_order (wsV RX7 91 RX7 yX7_tankAt wsX7_tankAt) := goodIn_app (goodIn_of _ (by decide +kernel)) ggX7_order_X7_tankAt
theorem dX7_order_0 : decode cX7_order 0 = .ok (.aload_n 0, 1) := by decide +kernel
theorem dX7_order_1 : decode cX7_order 1 = .ok (.iload_n 1, 1) := by decide +kernel
theorem dX7_order_2 : decode cX7_order 2 = .ok (.invokevirtual 91, 3) := by decide +kernel
theorem dX7_order_5 : decode cX7_order 5 = .ok (.astore_n 3, 1) := by decide +kernel
theorem dX7_order_6 : decode cX7_order 6 = .ok (.aload_n 3, 1) := by decide +kernel
theorem dX7_order_7 : decode cX7_order 7 = .ok (.ifnull 7, 3) := by decide +kernel
theorem dX7_order_10 : decode cX7_order 10 = .ok (.iload_n 2, 1) := by decide +kernel
theorem dX7_order_11 : decode cX7_order 11 = .ok (.ifCond .ge 5, 3) := by decide +kernel
theorem dX7_order_14 : decode cX7_order 14 = .ok (.iconst (-1), 1) := by decide +kernel
theorem dX7_order_15 : decode cX7_order 15 = .ok (.ireturn, 1) := by decide +kernel
theorem dX7_order_16 : decode cX7_order 16 = .ok (.iconst 0, 1) := by decide +kernel
theorem dX7_order_17 : decode cX7_order 17 = .ok (.istore 4, 2) := by decide +kernel
theorem dX7_order_19 : decode cX7_order 19 = .ok (.aload_n 3, 1) := by decide +kernel
theorem dX7_order_20 : decode cX7_order 20 = .ok (.getfield 225, 3) := by decide +kernel
theorem dX7_order_23 : decode cX7_order 23 = .ok (.astore 5, 2) := by decide +kernel
theorem dX7_order_25 : decode cX7_order 25 = .ok (.aload 5, 2) := by decide +kernel
theorem dX7_order_27 : decode cX7_order 27 = .ok (.ifnull 28, 3) := by decide +kernel
theorem dX7_order_30 : decode cX7_order 30 = .ok (.iload 4, 2) := by decide +kernel
theorem dX7_order_32 : decode cX7_order 32 = .ok (.iload_n 2, 1) := by decide +kernel
theorem dX7_order_33 : decode cX7_order 33 = .ok (.if_icmp .ne 9, 3) := by decide +kernel
theorem dX7_order_36 : decode cX7_order 36 = .ok (.aload 5, 2) := by decide +kernel
theorem dX7_order_38 : decode cX7_order 38 = .ok (.getfield 229, 3) := by decide +kernel
theorem dX7_order_41 : decode cX7_order 41 = .ok (.ireturn, 1) := by decide +kernel
theorem dX7_order_42 : decode cX7_order 42 = .ok (.iinc 4 1, 3) := by decide +kernel
theorem dX7_order_45 : decode cX7_order 45 = .ok (.aload 5, 2) := by decide +kernel
theorem dX7_order_47 : decode cX7_order 47 = .ok (.getfield 232, 3) := by decide +kernel
theorem dX7_order_50 : decode cX7_order 50 = .ok (.astore 5, 2) := by decide +kernel
theorem dX7_order_52 : decode cX7_order 52 = .ok (.goto (-27), 3) := by decide +kernel
theorem dX7_order_55 : decode cX7_order 55 = .ok (.iconst (-1), 1) := by decide +kernel
theorem dX7_order_56 : decode cX7_order 56 = .ok (.ireturn, 1) := by decide +kernel
set_option maxRecDepth 20000 in
theorem ggX7_owner_X7_isWithin : GoodIn wsX7_owner wsX7_isWithin := goodIn_r _ [8] (by decide +kernel) (by decide +kernel)
set_option maxRecDepth 20000 in
theorem gX7_owner_X7_isWithin : GoodIn wsX7_owner (va_wsS RX7 95 yX7_isWithin wsX7_isWithin) := goodIn_app (goodIn_of _ (by decide +kernel)) ggX7_owner_X7_isWithin
set_option maxRecDepth 20000 in
theorem ggX7_owner_X7_fieldAt : GoodIn wsX7_owner wsX7_fieldAt := goodIn_r _ [12, 13, 14, 15, 16, 17, 18, 19, 20, 21, 22, 23, 24, 25, 26, 27, 28] (by decide +kernel) (by decide +kernel)
set_option maxRecDepth 20000 in
theorem gX7_owner_X7_fieldAt : GoodIn wsX7_owner (wsV RX7 197 RX7 yX7_fieldAt wsX7_fieldAt) := goodIn_app (goodIn_of _ (by decide +kernel)) ggX7_owner_X7_fieldAt
theorem dX7_owner_0 : decode cX7_owner 0 = .ok (.iload_n 1, 1) := by decide +kernel
theorem dX7_owner_1 : decode cX7_owner 1 = .ok (.iconst 0, 1) := by decide +kernel
theorem dX7_owner_2 : decode cX7_owner 2 = .ok (.bipush 9, 2) := by decide +kernel
theorem dX7_owner_4 : decode cX7_owner 4 = .ok (.invokestatic 95, 3) := by decide +kernel
theorem dX7_owner_7 : decode cX7_owner 7 = .ok (.ifCond .ne 5, 3) := by decide +kernel
theorem dX7_owner_10 : decode cX7_owner 10 = .ok (.iconst (-1), 1) := by decide +kernel
theorem dX7_owner_11 : decode cX7_owner 11 = .ok (.ireturn, 1) := by decide +kernel
theorem dX7_owner_12 : decode cX7_owner 12 = .ok (.iconst 0, 1) := by decide +kernel
theorem dX7_owner_13 : decode cX7_owner 13 = .ok (.istore_n 2, 1) := by decide +kernel
theorem dX7_owner_14 : decode cX7_owner 14 = .ok (.iconst 0, 1) := by decide +kernel
theorem dX7_owner_15 : decode cX7_owner 15 = .ok (.istore_n 3, 1) := by decide +kernel
theorem dX7_owner_16 : decode cX7_owner 16 = .ok (.iload_n 3, 1) := by decide +kernel
theorem dX7_owner_17 : decode cX7_owner 17 = .ok (.aload_n 0, 1) := by decide +kernel
theorem dX7_owner_18 : decode cX7_owner 18 = .ok (.getfield 39, 3) := by decide +kernel
theorem dX7_owner_21 : decode cX7_owner 21 = .ok (.if_icmp .ge 44, 3) := by decide +kernel
theorem dX7_owner_24 : decode cX7_owner 24 = .ok (.aload_n 0, 1) := by decide +kernel
theorem dX7_owner_25 : decode cX7_owner 25 = .ok (.iload_n 3, 1) := by decide +kernel
theorem dX7_owner_26 : decode cX7_owner 26 = .ok (.invokevirtual 197, 3) := by decide +kernel
theorem dX7_owner_29 : decode cX7_owner 29 = .ok (.astore 4, 2) := by decide +kernel
theorem dX7_owner_31 : decode cX7_owner 31 = .ok (.aload 4, 2) := by decide +kernel
theorem dX7_owner_33 : decode cX7_owner 33 = .ok (.ifnull 26, 3) := by decide +kernel
theorem dX7_owner_36 : decode cX7_owner 36 = .ok (.aload 4, 2) := by decide +kernel
theorem dX7_owner_38 : decode cX7_owner 38 = .ok (.getfield 210, 3) := by decide +kernel
theorem dX7_owner_41 : decode cX7_owner 41 = .ok (.iload_n 1, 1) := by decide +kernel
theorem dX7_owner_42 : decode cX7_owner 42 = .ok (.if_icmp .ne 17, 3) := by decide +kernel
theorem dX7_owner_45 : decode cX7_owner 45 = .ok (.iload_n 2, 1) := by decide +kernel
theorem dX7_owner_46 : decode cX7_owner 46 = .ok (.aload 4, 2) := by decide +kernel
theorem dX7_owner_48 : decode cX7_owner 48 = .ok (.getfield 207, 3) := by decide +kernel
theorem dX7_owner_51 : decode cX7_owner 51 = .ok (.aload 4, 2) := by decide +kernel
theorem dX7_owner_53 : decode cX7_owner 53 = .ok (.getfield 216, 3) := by decide +kernel
theorem dX7_owner_56 : decode cX7_owner 56 = .ok (.imul, 1) := by decide +kernel
theorem dX7_owner_57 : decode cX7_owner 57 = .ok (.iadd, 1) := by decide +kernel
theorem dX7_owner_58 : decode cX7_owner 58 = .ok (.istore_n 2, 1) := by decide +kernel
theorem dX7_owner_59 : decode cX7_owner 59 = .ok (.iinc 3 1, 3) := by decide +kernel
theorem dX7_owner_62 : decode cX7_owner 62 = .ok (.goto (-46), 3) := by decide +kernel
theorem dX7_owner_65 : decode cX7_owner 65 = .ok (.iload_n 2, 1) := by decide +kernel
theorem dX7_owner_66 : decode cX7_owner 66 = .ok (.ireturn, 1) := by decide +kernel
set_option maxRecDepth 20000 in
theorem ggX7_tried_X7_tankAt : GoodIn wsX7_tried wsX7_tankAt := goodIn_r _ [5, 6, 122, 123, 124, 125, 126, 127, 128, 129, 130, 131, 132, 133, 134, 135, 136] (by decide +kernel) (by decide +kernel)
set_option maxRecDepth 20000 in
theorem gX7_tried_X7_tankAt : GoodIn wsX7_tried (wsV RX7 91 RX7 yX7_tankAt wsX7_tankAt) := goodIn_app (goodIn_of _ (by decide +kernel)) ggX7_tried_X7_tankAt
set_option maxRecDepth 20000 in
theorem ggX7_tried_X7_mayTry : GoodIn wsX7_tried wsX7_mayTry := goodIn_r _ [9, 10, 11, 4, 12] (by decide +kernel) (by decide +kernel)
set_option maxRecDepth 20000 in
theorem gX7_tried_X7_mayTry : GoodIn wsX7_tried (va_wsS RX7 235 yX7_mayTry wsX7_mayTry) := goodIn_app (goodIn_of _ (by decide +kernel)) ggX7_tried_X7_mayTry
set_option maxRecDepth 20000 in
theorem ggX7_tried_X7_waterTried : GoodIn wsX7_tried wsX7_waterTried := goodIn_r _ [16, 17, 18, 19, 20, 21, 22, 23, 24, 25, 26, 27, 28, 29, 30, 31, 32, 33, 34, 35, 36, 37, 38, 39, 40, 41, 42, 43, 44, 45, 46, 47, 48, 49, 50, 51, 52, 53, 54, 55, 56, 57, 58, 59, 60, 61, 62, 63, 64, 65, 66, 67, 68, 69, 70, 71, 72, 73, 74, 75, 76, 77, 78, 79, 80, 81, 82, 83, 84, 85, 86, 87, 88, 89, 90, 91, 92, 93, 94, 95, 96, 97, 98, 99, 100, 101, 102, 103, 104, 105, 106, 107, 108, 109, 110, 111, 112, 113, 114, 115, 116, 117, 118, 119, 120, 121, 122, 123, 124, 125, 126, 127, 128, 129, 130, 131, 132, 133, 134, 135, 136, 137, 138, 139, 140, 141, 142, 143, 144, 145, 146, 147, 148, 149, 150, 151, 152, 153, 154, 155, 156, 157, 158, 159, 160, 161, 162, 163, 164, 165, 166, 167, 168, 169, 170, 171, 172, 173, 174, 175, 176, 177] (by decide +kernel) (by decide +kernel)
set_option maxRecDepth 20000 in
theorem gX7_tried_X7_waterTried : GoodIn wsX7_tried (wsV RX7 239 RX7 yX7_waterTried wsX7_waterTried) := goodIn_app (goodIn_of _ (by decide +kernel)) ggX7_tried_X7_waterTried
theorem dX7_tried_0 : decode cX7_tried 0 = .ok (.aload_n 0, 1) := by decide +kernel
theorem dX7_tried_1 : decode cX7_tried 1 = .ok (.iload_n 1, 1) := by decide +kernel
theorem dX7_tried_2 : decode cX7_tried 2 = .ok (.invokevirtual 91, 3) := by decide +kernel
theorem dX7_tried_5 : decode cX7_tried 5 = .ok (.astore 4, 2) := by decide +kernel
theorem dX7_tried_7 : decode cX7_tried 7 = .ok (.aload 4, 2) := by decide +kernel
theorem dX7_tried_9 : decode cX7_tried 9 = .ok (.ifnull 11, 3) := by decide +kernel
theorem dX7_tried_12 : decode cX7_tried 12 = .ok (.iload_n 2, 1) := by decide +kernel
theorem dX7_tried_13 : decode cX7_tried 13 = .ok (.iload_n 3, 1) := by decide +kernel
theorem dX7_tried_14 : decode cX7_tried 14 = .ok (.invokestatic 235, 3) := by decide +kernel
theorem dX7_tried_17 : decode cX7_tried 17 = .ok (.ifCond .ne 5, 3) := by decide +kernel
theorem dX7_tried_20 : decode cX7_tried 20 = .ok (.iconst (-1), 1) := by decide +kernel
theorem dX7_tried_21 : decode cX7_tried 21 = .ok (.ireturn, 1) := by decide +kernel
theorem dX7_tried_22 : decode cX7_tried 22 = .ok (.aload_n 0, 1) := by decide +kernel
theorem dX7_tried_23 : decode cX7_tried 23 = .ok (.aload 4, 2) := by decide +kernel
theorem dX7_tried_25 : decode cX7_tried 25 = .ok (.aconst_null, 1) := by decide +kernel
theorem dX7_tried_26 : decode cX7_tried 26 = .ok (.iload_n 2, 1) := by decide +kernel
theorem dX7_tried_27 : decode cX7_tried 27 = .ok (.iload_n 3, 1) := by decide +kernel
theorem dX7_tried_28 : decode cX7_tried 28 = .ok (.invokevirtual 239, 3) := by decide +kernel
theorem dX7_tried_31 : decode cX7_tried 31 = .ok (.ireturn, 1) := by decide +kernel
set_option maxRecDepth 20000 in
theorem ggX7_lost_X7_tankAt : GoodIn wsX7_lost wsX7_tankAt := goodIn_r _ [6, 7, 123, 124, 125, 126, 127, 128, 129, 130, 131, 132, 133, 134, 135, 136, 137] (by decide +kernel) (by decide +kernel)
set_option maxRecDepth 20000 in
theorem gX7_lost_X7_tankAt : GoodIn wsX7_lost (wsV RX7 91 RX7 yX7_tankAt wsX7_tankAt) := goodIn_app (goodIn_of _ (by decide +kernel)) ggX7_lost_X7_tankAt
set_option maxRecDepth 20000 in
theorem ggX7_lost_X7_mayTry : GoodIn wsX7_lost wsX7_mayTry := goodIn_r _ [10, 11, 12, 5, 13] (by decide +kernel) (by decide +kernel)
set_option maxRecDepth 20000 in
theorem gX7_lost_X7_mayTry : GoodIn wsX7_lost (va_wsS RX7 235 yX7_mayTry wsX7_mayTry) := goodIn_app (goodIn_of _ (by decide +kernel)) ggX7_lost_X7_mayTry
set_option maxRecDepth 20000 in
theorem ggX7_lost_X7_waterTried : GoodIn wsX7_lost wsX7_waterTried := goodIn_r _ [17, 18, 19, 20, 21, 22, 23, 24, 25, 26, 27, 28, 29, 30, 31, 32, 33, 34, 35, 36, 37, 38, 39, 40, 41, 42, 43, 44, 45, 46, 47, 48, 49, 50, 51, 52, 53, 54, 55, 56, 57, 58, 59, 60, 61, 62, 63, 64, 65, 66, 67, 68, 69, 70, 71, 72, 73, 74, 75, 76, 77, 78, 79, 80, 81, 82, 83, 84, 85, 86, 87, 88, 89, 90, 91, 92, 93, 94, 95, 96, 97, 98, 99, 100, 101, 102, 103, 104, 105, 106, 107, 108, 109, 110, 111, 112, 113, 114, 115, 116, 117, 118, 119, 120, 121, 122, 123, 124, 125, 126, 127, 128, 129, 130, 131, 132, 133, 134, 135, 136, 137, 138, 139, 140, 141, 142, 143, 144, 145, 146, 147, 148, 149, 150, 151, 152, 153, 154, 155, 156, 157, 158, 159, 160, 161, 162, 163, 164, 165, 166, 167, 168, 169, 170, 171, 172, 173, 174, 175, 176, 177, 178] (by decide +kernel) (by decide +kernel)
set_option maxRecDepth 20000 in
theorem gX7_lost_X7_waterTried : GoodIn wsX7_lost (wsV RX7 239 RX7 yX7_waterTried wsX7_waterTried) := goodIn_app (goodIn_of _ (by decide +kernel)) ggX7_lost_X7_waterTried
theorem dX7_lost_0 : decode cX7_lost 0 = .ok (.aload_n 0, 1) := by decide +kernel
theorem dX7_lost_1 : decode cX7_lost 1 = .ok (.iload_n 1, 1) := by decide +kernel
theorem dX7_lost_2 : decode cX7_lost 2 = .ok (.invokevirtual 91, 3) := by decide +kernel
theorem dX7_lost_5 : decode cX7_lost 5 = .ok (.astore 5, 2) := by decide +kernel
theorem dX7_lost_7 : decode cX7_lost 7 = .ok (.aload_n 0, 1) := by decide +kernel
theorem dX7_lost_8 : decode cX7_lost 8 = .ok (.iload_n 2, 1) := by decide +kernel
theorem dX7_lost_9 : decode cX7_lost 9 = .ok (.invokevirtual 91, 3) := by decide +kernel
theorem dX7_lost_12 : decode cX7_lost 12 = .ok (.astore 6, 2) := by decide +kernel
theorem dX7_lost_14 : decode cX7_lost 14 = .ok (.aload 5, 2) := by decide +kernel
theorem dX7_lost_16 : decode cX7_lost 16 = .ok (.ifnull 22, 3) := by decide +kernel
theorem dX7_lost_19 : decode cX7_lost 19 = .ok (.aload 6, 2) := by decide +kernel
theorem dX7_lost_21 : decode cX7_lost 21 = .ok (.ifnull 17, 3) := by decide +kernel
theorem dX7_lost_24 : decode cX7_lost 24 = .ok (.iload_n 2, 1) := by decide +kernel
theorem dX7_lost_25 : decode cX7_lost 25 = .ok (.iload_n 1, 1) := by decide +kernel
theorem dX7_lost_26 : decode cX7_lost 26 = .ok (.if_icmp .le 12, 3) := by decide +kernel
theorem dX7_lost_29 : decode cX7_lost 29 = .ok (.iload_n 3, 1) := by decide +kernel
theorem dX7_lost_30 : decode cX7_lost 30 = .ok (.iload 4, 2) := by decide +kernel
theorem dX7_lost_32 : decode cX7_lost 32 = .ok (.invokestatic 235, 3) := by decide +kernel
theorem dX7_lost_35 : decode cX7_lost 35 = .ok (.ifCond .ne 6, 3) := by decide +kernel
theorem dX7_lost_38 : decode cX7_lost 38 = .ok (.ldc 243, 2) := by decide +kernel
theorem dX7_lost_40 : decode cX7_lost 40 = .ok (.ireturn, 1) := by decide +kernel
theorem dX7_lost_41 : decode cX7_lost 41 = .ok (.aload_n 0, 1) := by decide +kernel
theorem dX7_lost_42 : decode cX7_lost 42 = .ok (.aload 6, 2) := by decide +kernel
theorem dX7_lost_44 : decode cX7_lost 44 = .ok (.aload 5, 2) := by decide +kernel
theorem dX7_lost_46 : decode cX7_lost 46 = .ok (.iload_n 3, 1) := by decide +kernel
theorem dX7_lost_47 : decode cX7_lost 47 = .ok (.iload 4, 2) := by decide +kernel
theorem dX7_lost_49 : decode cX7_lost 49 = .ok (.invokevirtual 239, 3) := by decide +kernel
theorem dX7_lost_52 : decode cX7_lost 52 = .ok (.aload_n 0, 1) := by decide +kernel
theorem dX7_lost_53 : decode cX7_lost 53 = .ok (.aload 6, 2) := by decide +kernel
theorem dX7_lost_55 : decode cX7_lost 55 = .ok (.aconst_null, 1) := by decide +kernel
theorem dX7_lost_56 : decode cX7_lost 56 = .ok (.iload_n 3, 1) := by decide +kernel
theorem dX7_lost_57 : decode cX7_lost 57 = .ok (.iload 4, 2) := by decide +kernel
theorem dX7_lost_59 : decode cX7_lost 59 = .ok (.invokevirtual 239, 3) := by decide +kernel
theorem dX7_lost_62 : decode cX7_lost 62 = .ok (.isub, 1) := by decide +kernel
theorem dX7_lost_63 : decode cX7_lost 63 = .ok (.ireturn, 1) := by decide +kernel
set_option maxRecDepth 20000 in
theorem ggX7_most_X7_tankAt : GoodIn wsX7_most wsX7_tankAt := goodIn_r _ [5, 6, 125, 126, 127, 128, 129, 130, 131, 132, 133, 134, 135, 136, 137, 138, 139] (by decide +kernel) (by decide +kernel)
set_option maxRecDepth 20000 in
theorem gX7_most_X7_tankAt : GoodIn wsX7_most (wsV RX7 91 RX7 yX7_tankAt wsX7_tankAt) := goodIn_app (goodIn_of _ (by decide +kernel)) ggX7_most_X7_tankAt
set_option maxRecDepth 20000 in
theorem ggX7_most_X7_isWithin : GoodIn wsX7_most wsX7_isWithin := goodIn_r _ [9] (by decide +kernel) (by decide +kernel)
set_option maxRecDepth 20000 in
theorem gX7_most_X7_isWithin : GoodIn wsX7_most (va_wsS RX7 95 yX7_isWithin wsX7_isWithin) := goodIn_app (goodIn_of _ (by decide +kernel)) ggX7_most_X7_isWithin
set_option maxRecDepth 20000 in
theorem ggX7_most_X7_mayTry : GoodIn wsX7_most wsX7_mayTry := goodIn_r _ [12, 7, 8, 4, 9] (by decide +kernel) (by decide +kernel)
set_option maxRecDepth 20000 in
theorem gX7_most_X7_mayTry : GoodIn wsX7_most (va_wsS RX7 235 yX7_mayTry wsX7_mayTry) := goodIn_app (goodIn_of _ (by decide +kernel)) ggX7_most_X7_mayTry
set_option maxRecDepth 20000 in
theorem ggX7_most_X7_areasFedBy : GoodIn wsX7_most wsX7_areasFedBy := goodIn_r _ [16, 17, 18, 19, 20, 21, 22, 23, 24, 25, 26, 27, 28, 29, 30, 31, 32, 33, 34, 35, 36, 37, 38, 39, 1, 2, 3, 4, 5, 6, 40, 41, 42, 43, 44, 45, 46, 47, 48, 49, 50, 51, 52, 53, 54, 55, 56, 57, 58, 59, 60, 61, 62, 63, 64, 65, 66, 67, 68, 69, 70, 71, 72, 73, 74, 75, 76, 77, 78, 79, 80, 81, 82, 83, 84, 85, 86, 87, 88, 89, 90, 91, 92, 93, 94, 95, 96, 97, 98, 99, 100, 101, 102, 103, 104, 105, 106, 107, 108, 109, 110, 111, 112, 113, 114, 115, 116, 117, 118, 119, 120, 121, 122, 123, 124, 125, 126, 127, 128, 129, 130, 131, 132, 133, 134, 135, 136, 137, 138, 139, 140, 141, 142, 143, 144, 145, 146, 147, 148, 149, 150, 151, 152, 153, 154, 155, 156, 157, 158, 159, 160, 161, 162, 163, 164, 165, 166, 167, 168, 169, 170, 171, 172, 173, 174, 175, 176, 177, 178, 179, 180] (by decide +kernel) (by decide +kernel)
set_option maxRecDepth 20000 in
theorem gX7_most_X7_areasFedBy : GoodIn wsX7_most (wsV RX7 244 RX7 yX7_areasFedBy wsX7_areasFedBy) := goodIn_app (goodIn_of _ (by decide +kernel)) ggX7_most_X7_areasFedBy
set_option maxRecDepth 20000 in
theorem ggX7_most_X7_openingIn : GoodIn wsX7_most wsX7_openingIn := goodIn_r _ [42] (by decide +kernel) (by decide +kernel)
set_option maxRecDepth 20000 in
theorem gX7_most_X7_openingIn : GoodIn wsX7_most (va_wsS RX7 248 yX7_openingIn wsX7_openingIn) := goodIn_app (goodIn_of _ (by decide +kernel)) ggX7_most_X7_openingIn
theorem dX7_most_0 : decode cX7_most 0 = .ok (.aload_n 0, 1) := by decide +kernel
theorem dX7_most_1 : decode cX7_most 1 = .ok (.iload_n 1, 1) := by decide +kernel
theorem dX7_most_2 : decode cX7_most 2 = .ok (.invokevirtual 91, 3) := by decide +kernel
theorem dX7_most_5 : decode cX7_most 5 = .ok (.ifnull 47, 3) := by decide +kernel
theorem dX7_most_8 : decode cX7_most 8 = .ok (.iload_n 2, 1) := by decide +kernel
theorem dX7_most_9 : decode cX7_most 9 = .ok (.iconst 1, 1) := by decide +kernel
theorem dX7_most_10 : decode cX7_most 10 = .ok (.iconst 3, 1) := by decide +kernel
theorem dX7_most_11 : decode cX7_most 11 = .ok (.invokestatic 95, 3) := by decide +kernel
theorem dX7_most_14 : decode cX7_most 14 = .ok (.ifCond .eq 38, 3) := by decide +kernel
theorem dX7_most_17 : decode cX7_most 17 = .ok (.aload_n 0, 1) := by decide +kernel
theorem dX7_most_18 : decode cX7_most 18 = .ok (.iload_n 1, 1) := by decide +kernel
theorem dX7_most_19 : decode cX7_most 19 = .ok (.iload_n 2, 1) := by decide +kernel
theorem dX7_most_20 : decode cX7_most 20 = .ok (.iadd, 1) := by decide +kernel
theorem dX7_most_21 : decode cX7_most 21 = .ok (.iconst 1, 1) := by decide +kernel
theorem dX7_most_22 : decode cX7_most 22 = .ok (.isub, 1) := by decide +kernel
theorem dX7_most_23 : decode cX7_most 23 = .ok (.invokevirtual 91, 3) := by decide +kernel
theorem dX7_most_26 : decode cX7_most 26 = .ok (.ifnull 26, 3) := by decide +kernel
theorem dX7_most_29 : decode cX7_most 29 = .ok (.iload_n 3, 1) := by decide +kernel
theorem dX7_most_30 : decode cX7_most 30 = .ok (.iload 4, 2) := by decide +kernel
theorem dX7_most_32 : decode cX7_most 32 = .ok (.invokestatic 235, 3) := by decide +kernel
theorem dX7_most_35 : decode cX7_most 35 = .ok (.ifCond .eq 17, 3) := by decide +kernel
theorem dX7_most_38 : decode cX7_most 38 = .ok (.iload 5, 2) := by decide +kernel
theorem dX7_most_40 : decode cX7_most 40 = .ok (.iconst 0, 1) := by decide +kernel
theorem dX7_most_41 : decode cX7_most 41 = .ok (.iload_n 2, 1) := by decide +kernel
theorem dX7_most_42 : decode cX7_most 42 = .ok (.invokestatic 95, 3) := by decide +kernel
theorem dX7_most_45 : decode cX7_most 45 = .ok (.ifCond .eq 7, 3) := by decide +kernel
theorem dX7_most_48 : decode cX7_most 48 = .ok (.iconst 1, 1) := by decide +kernel
theorem dX7_most_49 : decode cX7_most 49 = .ok (.goto 4, 3) := by decide +kernel
theorem dX7_most_52 : decode cX7_most 52 = .ok (.iconst 0, 1) := by decide +kernel
theorem dX7_most_53 : decode cX7_most 53 = .ok (.istore 6, 2) := by decide +kernel
theorem dX7_most_55 : decode cX7_most 55 = .ok (.iload 6, 2) := by decide +kernel
theorem dX7_most_57 : decode cX7_most 57 = .ok (.ifCond .ne 5, 3) := by decide +kernel
theorem dX7_most_60 : decode cX7_most 60 = .ok (.iconst (-1), 1) := by decide +kernel
theorem dX7_most_61 : decode cX7_most 61 = .ok (.ireturn, 1) := by decide +kernel
theorem dX7_most_62 : decode cX7_most 62 = .ok (.iconst 1, 1) := by decide +kernel
theorem dX7_most_63 : decode cX7_most 63 = .ok (.istore 7, 2) := by decide +kernel
theorem dX7_most_65 : decode cX7_most 65 = .ok (.iconst 0, 1) := by decide +kernel
theorem dX7_most_66 : decode cX7_most 66 = .ok (.istore 8, 2) := by decide +kernel
theorem dX7_most_68 : decode cX7_most 68 = .ok (.iload 8, 2) := by decide +kernel
theorem dX7_most_70 : decode cX7_most 70 = .ok (.iload_n 2, 1) := by decide +kernel
theorem dX7_most_71 : decode cX7_most 71 = .ok (.if_icmp .ge 15, 3) := by decide +kernel
theorem dX7_most_74 : decode cX7_most 74 = .ok (.iload 7, 2) := by decide +kernel
theorem dX7_most_76 : decode cX7_most 76 = .ok (.iconst 5, 1) := by decide +kernel
theorem dX7_most_77 : decode cX7_most 77 = .ok (.imul, 1) := by decide +kernel
theorem dX7_most_78 : decode cX7_most 78 = .ok (.istore 7, 2) := by decide +kernel
theorem dX7_most_80 : decode cX7_most 80 = .ok (.iinc 8 1, 3) := by decide +kernel
theorem dX7_most_83 : decode cX7_most 83 = .ok (.goto (-15), 3) := by decide +kernel
theorem dX7_most_86 : decode cX7_most 86 = .ok (.iconst (-1), 1) := by decide +kernel
theorem dX7_most_87 : decode cX7_most 87 = .ok (.istore 8, 2) := by decide +kernel
theorem dX7_most_89 : decode cX7_most 89 = .ok (.iconst 0, 1) := by decide +kernel
theorem dX7_most_90 : decode cX7_most 90 = .ok (.istore 9, 2) := by decide +kernel
theorem dX7_most_92 : decode cX7_most 92 = .ok (.iconst 0, 1) := by decide +kernel
theorem dX7_most_93 : decode cX7_most 93 = .ok (.istore 10, 2) := by decide +kernel
theorem dX7_most_95 : decode cX7_most 95 = .ok (.iload 10, 2) := by decide +kernel
theorem dX7_most_97 : decode cX7_most 97 = .ok (.iload 7, 2) := by decide +kernel
theorem dX7_most_99 : decode cX7_most 99 = .ok (.if_icmp .ge 37, 3) := by decide +kernel
theorem dX7_most_102 : decode cX7_most 102 = .ok (.aload_n 0, 1) := by decide +kernel
theorem dX7_most_103 : decode cX7_most 103 = .ok (.iload 10, 2) := by decide +kernel
theorem dX7_most_105 : decode cX7_most 105 = .ok (.iload_n 1, 1) := by decide +kernel
theorem dX7_most_106 : decode cX7_most 106 = .ok (.iload_n 2, 1) := by decide +kernel
theorem dX7_most_107 : decode cX7_most 107 = .ok (.iload_n 3, 1) := by decide +kernel
theorem dX7_most_108 : decode cX7_most 108 = .ok (.iload 4, 2) := by decide +kernel
theorem dX7_most_110 : decode cX7_most 110 = .ok (.invokevirtual 244, 3) := by decide +kernel
theorem dX7_most_113 : decode cX7_most 113 = .ok (.istore 11, 2) := by decide +kernel
theorem dX7_most_115 : decode cX7_most 115 = .ok (.iload 11, 2) := by decide +kernel
theorem dX7_most_117 : decode cX7_most 117 = .ok (.iload 8, 2) := by decide +kernel
theorem dX7_most_119 : decode cX7_most 119 = .ok (.if_icmp .le 11, 3) := by decide +kernel
theorem dX7_most_122 : decode cX7_most 122 = .ok (.iload 11, 2) := by decide +kernel
theorem dX7_most_124 : decode cX7_most 124 = .ok (.istore 8, 2) := by decide +kernel
theorem dX7_most_126 : decode cX7_most 126 = .ok (.iload 10, 2) := by decide +kernel
theorem dX7_most_128 : decode cX7_most 128 = .ok (.istore 9, 2) := by decide +kernel
theorem dX7_most_130 : decode cX7_most 130 = .ok (.iinc 10 1, 3) := by decide +kernel
theorem dX7_most_133 : decode cX7_most 133 = .ok (.goto (-38), 3) := by decide +kernel
theorem dX7_most_136 : decode cX7_most 136 = .ok (.iload 5, 2) := by decide +kernel
theorem dX7_most_138 : decode cX7_most 138 = .ok (.ifCond .ne 8, 3) := by decide +kernel
theorem dX7_most_141 : decode cX7_most 141 = .ok (.iload 8, 2) := by decide +kernel
theorem dX7_most_143 : decode cX7_most 143 = .ok (.goto 12, 3) := by decide +kernel
theorem dX7_most_146 : decode cX7_most 146 = .ok (.iload 9, 2) := by decide +kernel
theorem dX7_most_148 : decode cX7_most 148 = .ok (.iload_n 2, 1) := by decide +kernel
theorem dX7_most_149 : decode cX7_most 149 = .ok (.iload 5, 2) := by decide +kernel
theorem dX7_most_151 : decode cX7_most 151 = .ok (.isub, 1) := by decide +kernel
theorem dX7_most_152 : decode cX7_most 152 = .ok (.invokestatic 248, 3) := by decide +kernel
theorem dX7_most_155 : decode cX7_most 155 = .ok (.ireturn, 1) := by decide +kernel
theorem dX7_breach_0 : decode cX7_breach 0 = .ok (.iload_n 1, 1) := by decide +kernel
theorem dX7_breach_1 : decode cX7_breach 1 = .ok (.tableswitch 42 0 2 #[27, 32, 37], 27) := by decide +kernel
theorem dX7_breach_28 : decode cX7_breach 28 = .ok (.aload_n 0, 1) := by decide +kernel
theorem dX7_breach_29 : decode cX7_breach 29 = .ok (.getfield 58, 3) := by decide +kernel
theorem dX7_breach_32 : decode cX7_breach 32 = .ok (.ireturn, 1) := by decide +kernel
theorem dX7_breach_33 : decode cX7_breach 33 = .ok (.aload_n 0, 1) := by decide +kernel
theorem dX7_breach_34 : decode cX7_breach 34 = .ok (.getfield 61, 3) := by decide +kernel
theorem dX7_breach_37 : decode cX7_breach 37 = .ok (.ireturn, 1) := by decide +kernel
theorem dX7_breach_38 : decode cX7_breach 38 = .ok (.aload_n 0, 1) := by decide +kernel
theorem dX7_breach_39 : decode cX7_breach 39 = .ok (.getfield 55, 3) := by decide +kernel
theorem dX7_breach_42 : decode cX7_breach 42 = .ok (.ireturn, 1) := by decide +kernel
theorem dX7_breach_43 : decode cX7_breach 43 = .ok (.iconst (-1), 1) := by decide +kernel
theorem dX7_breach_44 : decode cX7_breach 44 = .ok (.ireturn, 1) := by decide +kernel
set_option maxRecDepth 20000 in
theorem ggX7_count_X7_allWater : GoodIn wsX7_count wsX7_allWater := goodIn_r _ [16, 17, 18, 19, 20, 21, 22, 23, 24, 25, 26, 27, 28, 29, 30, 31, 32, 33, 34, 35, 36, 47, 48, 49, 50, 51, 52, 53, 54, 55, 56, 57, 58, 59, 60, 61, 62, 63, 64, 65] (by decide +kernel) (by decide +kernel)
set_option maxRecDepth 20000 in
theorem gX7_count_X7_allWater : GoodIn wsX7_count (wsV RX7 251 RX7 yX7_allWater wsX7_allWater) := goodIn_app (goodIn_of _ (by decide +kernel)) ggX7_count_X7_allWater
theorem dX7_count_0 : decode cX7_count 0 = .ok (.iload_n 1, 1) := by decide +kernel
theorem dX7_count_1 : decode cX7_count 1 = .ok (.tableswitch 121 0 9 #[55, 60, 66, 71, 76, 84, 92, 100, 108, 116], 55) := by decide +kernel
theorem dX7_count_56 : decode cX7_count 56 = .ok (.aload_n 0, 1) := by decide +kernel
theorem dX7_count_57 : decode cX7_count 57 = .ok (.getfield 43, 3) := by decide +kernel
theorem dX7_count_60 : decode cX7_count 60 = .ok (.ireturn, 1) := by decide +kernel
theorem dX7_count_61 : decode cX7_count 61 = .ok (.aload_n 0, 1) := by decide +kernel
theorem dX7_count_62 : decode cX7_count 62 = .ok (.getfield 75, 3) := by decide +kernel
theorem dX7_count_65 : decode cX7_count 65 = .ok (.arraylength, 1) := by decide +kernel
theorem dX7_count_66 : decode cX7_count 66 = .ok (.ireturn, 1) := by decide +kernel
theorem dX7_count_67 : decode cX7_count 67 = .ok (.aload_n 0, 1) := by decide +kernel
theorem dX7_count_68 : decode cX7_count 68 = .ok (.getfield 39, 3) := by decide +kernel
theorem dX7_count_71 : decode cX7_count 71 = .ok (.ireturn, 1) := by decide +kernel
theorem dX7_count_72 : decode cX7_count 72 = .ok (.aload_n 0, 1) := by decide +kernel
theorem dX7_count_73 : decode cX7_count 73 = .ok (.invokevirtual 251, 3) := by decide +kernel
theorem dX7_count_76 : decode cX7_count 76 = .ok (.ireturn, 1) := by decide +kernel
theorem dX7_count_77 : decode cX7_count 77 = .ok (.aload_n 0, 1) := by decide +kernel
theorem dX7_count_78 : decode cX7_count 78 = .ok (.getfield 35, 3) := by decide +kernel
theorem dX7_count_81 : decode cX7_count 81 = .ok (.getfield 255, 3) := by decide +kernel
theorem dX7_count_84 : decode cX7_count 84 = .ok (.ireturn, 1) := by decide +kernel
theorem dX7_count_85 : decode cX7_count 85 = .ok (.aload_n 0, 1) := by decide +kernel
theorem dX7_count_86 : decode cX7_count 86 = .ok (.getfield 35, 3) := by decide +kernel
theorem dX7_count_89 : decode cX7_count 89 = .ok (.getfield 258, 3) := by decide +kernel
theorem dX7_count_92 : decode cX7_count 92 = .ok (.ireturn, 1) := by decide +kernel
theorem dX7_count_93 : decode cX7_count 93 = .ok (.aload_n 0, 1) := by decide +kernel
theorem dX7_count_94 : decode cX7_count 94 = .ok (.getfield 35, 3) := by decide +kernel
theorem dX7_count_97 : decode cX7_count 97 = .ok (.getfield 261, 3) := by decide +kernel
theorem dX7_count_100 : decode cX7_count 100 = .ok (.ireturn, 1) := by decide +kernel
theorem dX7_count_101 : decode cX7_count 101 = .ok (.aload_n 0, 1) := by decide +kernel
theorem dX7_count_102 : decode cX7_count 102 = .ok (.getfield 35, 3) := by decide +kernel
theorem dX7_count_105 : decode cX7_count 105 = .ok (.getfield 264, 3) := by decide +kernel
theorem dX7_count_108 : decode cX7_count 108 = .ok (.ireturn, 1) := by decide +kernel
theorem dX7_count_109 : decode cX7_count 109 = .ok (.aload_n 0, 1) := by decide +kernel
theorem dX7_count_110 : decode cX7_count 110 = .ok (.getfield 18, 3) := by decide +kernel
theorem dX7_count_113 : decode cX7_count 113 = .ok (.getfield 138, 3) := by decide +kernel
theorem dX7_count_116 : decode cX7_count 116 = .ok (.ireturn, 1) := by decide +kernel
theorem dX7_count_117 : decode cX7_count 117 = .ok (.aload_n 0, 1) := by decide +kernel
theorem dX7_count_118 : decode cX7_count 118 = .ok (.getfield 49, 3) := by decide +kernel
theorem dX7_count_121 : decode cX7_count 121 = .ok (.ireturn, 1) := by decide +kernel
theorem dX7_count_122 : decode cX7_count 122 = .ok (.iconst (-1), 1) := by decide +kernel
theorem dX7_count_123 : decode cX7_count 123 = .ok (.ireturn, 1) := by decide +kernel
theorem dX7_isWithin_0 : decode cX7_isWithin 0 = .ok (.iload_n 0, 1) := by decide +kernel
theorem dX7_isWithin_1 : decode cX7_isWithin 1 = .ok (.iload_n 1, 1) := by decide +kernel
theorem dX7_isWithin_2 : decode cX7_isWithin 2 = .ok (.if_icmp .lt 12, 3) := by decide +kernel
theorem dX7_isWithin_5 : decode cX7_isWithin 5 = .ok (.iload_n 0, 1) := by decide +kernel
theorem dX7_isWithin_6 : decode cX7_isWithin 6 = .ok (.iload_n 2, 1) := by decide +kernel
theorem dX7_isWithin_7 : decode cX7_isWithin 7 = .ok (.if_icmp .gt 7, 3) := by decide +kernel
theorem dX7_isWithin_10 : decode cX7_isWithin 10 = .ok (.iconst 1, 1) := by decide +kernel
theorem dX7_isWithin_11 : decode cX7_isWithin 11 = .ok (.goto 4, 3) := by decide +kernel
theorem dX7_isWithin_14 : decode cX7_isWithin 14 = .ok (.iconst 0, 1) := by decide +kernel
theorem dX7_isWithin_15 : decode cX7_isWithin 15 = .ok (.ireturn, 1) := by decide +kernel
theorem dX7_asNumber_0 : decode cX7_asNumber 0 = .ok (.iload_n 0, 1) := by decide +kernel
theorem dX7_asNumber_1 : decode cX7_asNumber 1 = .ok (.ifCond .eq 7, 3) := by decide +kernel
theorem dX7_asNumber_4 : decode cX7_asNumber 4 = .ok (.iconst 1, 1) := by decide +kernel
theorem dX7_asNumber_5 : decode cX7_asNumber 5 = .ok (.goto 4, 3) := by decide +kernel
theorem dX7_asNumber_8 : decode cX7_asNumber 8 = .ok (.iconst 0, 1) := by decide +kernel
theorem dX7_asNumber_9 : decode cX7_asNumber 9 = .ok (.ireturn, 1) := by decide +kernel
set_option maxRecDepth 20000 in
theorem ggX7_mayTry_X7_isWithin : GoodIn wsX7_mayTry wsX7_isWithin := goodIn_r _ [4] (by decide +kernel) (by decide +kernel)
set_option maxRecDepth 20000 in
theorem gX7_mayTry_X7_isWithin : GoodIn wsX7_mayTry (va_wsS RX7 95 yX7_isWithin wsX7_isWithin) := goodIn_app (goodIn_of _ (by decide +kernel)) ggX7_mayTry_X7_isWithin
theorem dX7_mayTry_0 : decode cX7_mayTry 0 = .ok (.iload_n 0, 1) := by decide +kernel
theorem dX7_mayTry_1 : decode cX7_mayTry 1 = .ok (.iconst 1, 1) := by decide +kernel
theorem dX7_mayTry_2 : decode cX7_mayTry 2 = .ok (.bipush 10, 2) := by decide +kernel
theorem dX7_mayTry_4 : decode cX7_mayTry 4 = .ok (.invokestatic 95, 3) := by decide +kernel
theorem dX7_mayTry_7 : decode cX7_mayTry 7 = .ok (.ifCond .eq 17, 3) := by decide +kernel
theorem dX7_mayTry_10 : decode cX7_mayTry 10 = .ok (.iload_n 1, 1) := by decide +kernel
theorem dX7_mayTry_11 : decode cX7_mayTry 11 = .ok (.iconst 0, 1) := by decide +kernel
theorem dX7_mayTry_12 : decode cX7_mayTry 12 = .ok (.bipush 50, 2) := by decide +kernel
theorem dX7_mayTry_14 : decode cX7_mayTry 14 = .ok (.invokestatic 95, 3) := by decide +kernel
theorem dX7_mayTry_17 : decode cX7_mayTry 17 = .ok (.ifCond .eq 7, 3) := by decide +kernel
theorem dX7_mayTry_20 : decode cX7_mayTry 20 = .ok (.iconst 1, 1) := by decide +kernel
theorem dX7_mayTry_21 : decode cX7_mayTry 21 = .ok (.goto 4, 3) := by decide +kernel
theorem dX7_mayTry_24 : decode cX7_mayTry 24 = .ok (.iconst 0, 1) := by decide +kernel
theorem dX7_mayTry_25 : decode cX7_mayTry 25 = .ok (.ireturn, 1) := by decide +kernel
theorem dX7_tankAt_0 : decode cX7_tankAt 0 = .ok (.iload_n 1, 1) := by decide +kernel
theorem dX7_tankAt_1 : decode cX7_tankAt 1 = .ok (.ifCond .lt 21, 3) := by decide +kernel
theorem dX7_tankAt_4 : decode cX7_tankAt 4 = .ok (.iload_n 1, 1) := by decide +kernel
theorem dX7_tankAt_5 : decode cX7_tankAt 5 = .ok (.aload_n 0, 1) := by decide +kernel
theorem dX7_tankAt_6 : decode cX7_tankAt 6 = .ok (.getfield 75, 3) := by decide +kernel
theorem dX7_tankAt_9 : decode cX7_tankAt 9 = .ok (.arraylength, 1) := by decide +kernel
theorem dX7_tankAt_10 : decode cX7_tankAt 10 = .ok (.if_icmp .ge 12, 3) := by decide +kernel
theorem dX7_tankAt_13 : decode cX7_tankAt 13 = .ok (.aload_n 0, 1) := by decide +kernel
theorem dX7_tankAt_14 : decode cX7_tankAt 14 = .ok (.getfield 75, 3) := by decide +kernel
theorem dX7_tankAt_17 : decode cX7_tankAt 17 = .ok (.iload_n 1, 1) := by decide +kernel
theorem dX7_tankAt_18 : decode cX7_tankAt 18 = .ok (.aaload, 1) := by decide +kernel
theorem dX7_tankAt_19 : decode cX7_tankAt 19 = .ok (.goto 4, 3) := by decide +kernel
theorem dX7_tankAt_22 : decode cX7_tankAt 22 = .ok (.aconst_null, 1) := by decide +kernel
theorem dX7_tankAt_23 : decode cX7_tankAt 23 = .ok (.areturn, 1) := by decide +kernel
theorem dX7_fieldAt_0 : decode cX7_fieldAt 0 = .ok (.iload_n 1, 1) := by decide +kernel
theorem dX7_fieldAt_1 : decode cX7_fieldAt 1 = .ok (.ifCond .lt 21, 3) := by decide +kernel
theorem dX7_fieldAt_4 : decode cX7_fieldAt 4 = .ok (.iload_n 1, 1) := by decide +kernel
theorem dX7_fieldAt_5 : decode cX7_fieldAt 5 = .ok (.aload_n 0, 1) := by decide +kernel
theorem dX7_fieldAt_6 : decode cX7_fieldAt 6 = .ok (.getfield 11, 3) := by decide +kernel
theorem dX7_fieldAt_9 : decode cX7_fieldAt 9 = .ok (.arraylength, 1) := by decide +kernel
theorem dX7_fieldAt_10 : decode cX7_fieldAt 10 = .ok (.if_icmp .ge 12, 3) := by decide +kernel
theorem dX7_fieldAt_13 : decode cX7_fieldAt 13 = .ok (.aload_n 0, 1) := by decide +kernel
theorem dX7_fieldAt_14 : decode cX7_fieldAt 14 = .ok (.getfield 11, 3) := by decide +kernel
theorem dX7_fieldAt_17 : decode cX7_fieldAt 17 = .ok (.iload_n 1, 1) := by decide +kernel
theorem dX7_fieldAt_18 : decode cX7_fieldAt 18 = .ok (.aaload, 1) := by decide +kernel
theorem dX7_fieldAt_19 : decode cX7_fieldAt 19 = .ok (.goto 4, 3) := by decide +kernel
theorem dX7_fieldAt_22 : decode cX7_fieldAt 22 = .ok (.aconst_null, 1) := by decide +kernel
theorem dX7_fieldAt_23 : decode cX7_fieldAt 23 = .ok (.areturn, 1) := by decide +kernel
theorem dX7_allWater_0 : decode cX7_allWater 0 = .ok (.iconst 0, 1) := by decide +kernel
theorem dX7_allWater_1 : decode cX7_allWater 1 = .ok (.istore_n 1, 1) := by decide +kernel
theorem dX7_allWater_2 : decode cX7_allWater 2 = .ok (.aload_n 0, 1) := by decide +kernel
theorem dX7_allWater_3 : decode cX7_allWater 3 = .ok (.getfield 87, 3) := by decide +kernel
theorem dX7_allWater_6 : decode cX7_allWater 6 = .ok (.getfield 267, 3) := by decide +kernel
theorem dX7_allWater_9 : decode cX7_allWater 9 = .ok (.astore_n 2, 1) := by decide +kernel
theorem dX7_allWater_10 : decode cX7_allWater 10 = .ok (.aload_n 2, 1) := by decide +kernel
theorem dX7_allWater_11 : decode cX7_allWater 11 = .ok (.ifnull 21, 3) := by decide +kernel
theorem dX7_allWater_14 : decode cX7_allWater 14 = .ok (.iload_n 1, 1) := by decide +kernel
theorem dX7_allWater_15 : decode cX7_allWater 15 = .ok (.aload_n 2, 1) := by decide +kernel
theorem dX7_allWater_16 : decode cX7_allWater 16 = .ok (.getfield 108, 3) := by decide +kernel
theorem dX7_allWater_19 : decode cX7_allWater 19 = .ok (.getfield 122, 3) := by decide +kernel
theorem dX7_allWater_22 : decode cX7_allWater 22 = .ok (.iadd, 1) := by decide +kernel
theorem dX7_allWater_23 : decode cX7_allWater 23 = .ok (.istore_n 1, 1) := by decide +kernel
theorem dX7_allWater_24 : decode cX7_allWater 24 = .ok (.aload_n 2, 1) := by decide +kernel
theorem dX7_allWater_25 : decode cX7_allWater 25 = .ok (.getfield 271, 3) := by decide +kernel
theorem dX7_allWater_28 : decode cX7_allWater 28 = .ok (.astore_n 2, 1) := by decide +kernel
theorem dX7_allWater_29 : decode cX7_allWater 29 = .ok (.goto (-19), 3) := by decide +kernel
theorem dX7_allWater_32 : decode cX7_allWater 32 = .ok (.iload_n 1, 1) := by decide +kernel
theorem dX7_allWater_33 : decode cX7_allWater 33 = .ok (.ireturn, 1) := by decide +kernel
set_option maxRecDepth 20000 in
theorem ggX7_orderAnew_X7_fieldAt : GoodIn wsX7_orderAnew wsX7_fieldAt := goodIn_r _ [12, 13, 40, 41, 42, 43, 44, 45, 46, 47, 48, 49, 50, 51, 52, 53, 54] (by decide +kernel) (by decide +kernel)
set_option maxRecDepth 20000 in
theorem gX7_orderAnew_X7_fieldAt : GoodIn wsX7_orderAnew (wsV RX7 197 RX7 yX7_fieldAt wsX7_fieldAt) := goodIn_app (goodIn_of _ (by decide +kernel)) ggX7_orderAnew_X7_fieldAt
set_option maxRecDepth 20000 in
theorem ggX7_orderAnew_X7_tankAt : GoodIn wsX7_orderAnew wsX7_tankAt := goodIn_r _ [17, 18, 40, 41, 42, 43, 44, 45, 46, 47, 48, 49, 50, 51, 52, 53, 54] (by decide +kernel) (by decide +kernel)
set_option maxRecDepth 20000 in
theorem gX7_orderAnew_X7_tankAt : GoodIn wsX7_orderAnew (wsV RX7 91 RX7 yX7_tankAt wsX7_tankAt) := goodIn_app (goodIn_of _ (by decide +kernel)) ggX7_orderAnew_X7_tankAt
set_option maxRecDepth 20000 in
theorem ggX7_orderAnew_X5_putInOrder : GoodIn wsX7_orderAnew wsX5_putInOrder := goodIn_r _ [23, 24, 25, 26, 27, 28, 29, 30, 31, 32, 33, 34, 35, 36, 37, 38, 39, 59, 60, 61, 62, 63, 64, 65, 66, 67, 68, 69, 70, 71, 72, 73, 74, 75, 76, 77, 78, 79, 80, 81, 82, 83, 84, 85, 86] (by decide +kernel) (by decide +kernel)
set_option maxRecDepth 20000 in
theorem gX7_orderAnew_X5_putInOrder : GoodIn wsX7_orderAnew (wsV RX7 128 RX5 yX5_putInOrder wsX5_putInOrder) := goodIn_app (goodIn_of _ (by decide +kernel)) ggX7_orderAnew_X5_putInOrder
theorem dX7_orderAnew_0 : decode cX7_orderAnew 0 = .ok (.aload_n 0, 1) := by decide +kernel
theorem dX7_orderAnew_1 : decode cX7_orderAnew 1 = .ok (.getfield 87, 3) := by decide +kernel
theorem dX7_orderAnew_4 : decode cX7_orderAnew 4 = .ok (.getfield 267, 3) := by decide +kernel
theorem dX7_orderAnew_7 : decode cX7_orderAnew 7 = .ok (.astore_n 1, 1) := by decide +kernel
theorem dX7_orderAnew_8 : decode cX7_orderAnew 8 = .ok (.aload_n 1, 1) := by decide +kernel
theorem dX7_orderAnew_9 : decode cX7_orderAnew 9 = .ok (.ifnull 16, 3) := by decide +kernel
theorem dX7_orderAnew_12 : decode cX7_orderAnew 12 = .ok (.aload_n 1, 1) := by decide +kernel
theorem dX7_orderAnew_13 : decode cX7_orderAnew 13 = .ok (.aconst_null, 1) := by decide +kernel
theorem dX7_orderAnew_14 : decode cX7_orderAnew 14 = .ok (.putfield 225, 3) := by decide +kernel
theorem dX7_orderAnew_17 : decode cX7_orderAnew 17 = .ok (.aload_n 1, 1) := by decide +kernel
theorem dX7_orderAnew_18 : decode cX7_orderAnew 18 = .ok (.getfield 271, 3) := by decide +kernel
theorem dX7_orderAnew_21 : decode cX7_orderAnew 21 = .ok (.astore_n 1, 1) := by decide +kernel
theorem dX7_orderAnew_22 : decode cX7_orderAnew 22 = .ok (.goto (-14), 3) := by decide +kernel
theorem dX7_orderAnew_25 : decode cX7_orderAnew 25 = .ok (.iconst 0, 1) := by decide +kernel
theorem dX7_orderAnew_26 : decode cX7_orderAnew 26 = .ok (.istore_n 1, 1) := by decide +kernel
theorem dX7_orderAnew_27 : decode cX7_orderAnew 27 = .ok (.iload_n 1, 1) := by decide +kernel
theorem dX7_orderAnew_28 : decode cX7_orderAnew 28 = .ok (.aload_n 0, 1) := by decide +kernel
theorem dX7_orderAnew_29 : decode cX7_orderAnew 29 = .ok (.getfield 39, 3) := by decide +kernel
theorem dX7_orderAnew_32 : decode cX7_orderAnew 32 = .ok (.if_icmp .ge 45, 3) := by decide +kernel
theorem dX7_orderAnew_35 : decode cX7_orderAnew 35 = .ok (.aload_n 0, 1) := by decide +kernel
theorem dX7_orderAnew_36 : decode cX7_orderAnew 36 = .ok (.iload_n 1, 1) := by decide +kernel
theorem dX7_orderAnew_37 : decode cX7_orderAnew 37 = .ok (.invokevirtual 197, 3) := by decide +kernel
theorem dX7_orderAnew_40 : decode cX7_orderAnew 40 = .ok (.astore_n 2, 1) := by decide +kernel
theorem dX7_orderAnew_41 : decode cX7_orderAnew 41 = .ok (.aload_n 2, 1) := by decide +kernel
theorem dX7_orderAnew_42 : decode cX7_orderAnew 42 = .ok (.ifnonnull 7, 3) := by decide +kernel
theorem dX7_orderAnew_45 : decode cX7_orderAnew 45 = .ok (.aconst_null, 1) := by decide +kernel
theorem dX7_orderAnew_46 : decode cX7_orderAnew 46 = .ok (.goto 11, 3) := by decide +kernel
theorem dX7_orderAnew_49 : decode cX7_orderAnew 49 = .ok (.aload_n 0, 1) := by decide +kernel
theorem dX7_orderAnew_50 : decode cX7_orderAnew 50 = .ok (.aload_n 2, 1) := by decide +kernel
theorem dX7_orderAnew_51 : decode cX7_orderAnew 51 = .ok (.getfield 201, 3) := by decide +kernel
theorem dX7_orderAnew_54 : decode cX7_orderAnew 54 = .ok (.invokevirtual 91, 3) := by decide +kernel
theorem dX7_orderAnew_57 : decode cX7_orderAnew 57 = .ok (.astore_n 3, 1) := by decide +kernel
theorem dX7_orderAnew_58 : decode cX7_orderAnew 58 = .ok (.aload_n 3, 1) := by decide +kernel
theorem dX7_orderAnew_59 : decode cX7_orderAnew 59 = .ok (.ifnull 12, 3) := by decide +kernel
theorem dX7_orderAnew_62 : decode cX7_orderAnew 62 = .ok (.aload_n 3, 1) := by decide +kernel
theorem dX7_orderAnew_63 : decode cX7_orderAnew 63 = .ok (.aload_n 2, 1) := by decide +kernel
theorem dX7_orderAnew_64 : decode cX7_orderAnew 64 = .ok (.aload_n 0, 1) := by decide +kernel
theorem dX7_orderAnew_65 : decode cX7_orderAnew 65 = .ok (.getfield 25, 3) := by decide +kernel
theorem dX7_orderAnew_68 : decode cX7_orderAnew 68 = .ok (.invokevirtual 128, 3) := by decide +kernel
theorem dX7_orderAnew_71 : decode cX7_orderAnew 71 = .ok (.iinc 1 1, 3) := by decide +kernel
theorem dX7_orderAnew_74 : decode cX7_orderAnew 74 = .ok (.goto (-47), 3) := by decide +kernel
theorem dX7_orderAnew_77 : decode cX7_orderAnew 77 = .ok (.return_, 1) := by decide +kernel
theorem dX7_addSilt_0 : decode cX7_addSilt 0 = .ok (.aload_n 0, 1) := by decide +kernel
theorem dX7_addSilt_1 : decode cX7_addSilt 1 = .ok (.getfield 87, 3) := by decide +kernel
theorem dX7_addSilt_4 : decode cX7_addSilt 4 = .ok (.getfield 267, 3) := by decide +kernel
theorem dX7_addSilt_7 : decode cX7_addSilt 7 = .ok (.astore_n 1, 1) := by decide +kernel
theorem dX7_addSilt_8 : decode cX7_addSilt 8 = .ok (.aload_n 1, 1) := by decide +kernel
theorem dX7_addSilt_9 : decode cX7_addSilt 9 = .ok (.ifnull 34, 3) := by decide +kernel
theorem dX7_addSilt_12 : decode cX7_addSilt 12 = .ok (.aload_n 1, 1) := by decide +kernel
theorem dX7_addSilt_13 : decode cX7_addSilt 13 = .ok (.aload_n 1, 1) := by decide +kernel
theorem dX7_addSilt_14 : decode cX7_addSilt 14 = .ok (.getfield 102, 3) := by decide +kernel
theorem dX7_addSilt_17 : decode cX7_addSilt 17 = .ok (.aload_n 1, 1) := by decide +kernel
theorem dX7_addSilt_18 : decode cX7_addSilt 18 = .ok (.getfield 135, 3) := by decide +kernel
theorem dX7_addSilt_21 : decode cX7_addSilt 21 = .ok (.aload_n 1, 1) := by decide +kernel
theorem dX7_addSilt_22 : decode cX7_addSilt 22 = .ok (.getfield 102, 3) := by decide +kernel
theorem dX7_addSilt_25 : decode cX7_addSilt 25 = .ok (.bipush 50, 2) := by decide +kernel
theorem dX7_addSilt_27 : decode cX7_addSilt 27 = .ok (.idiv, 1) := by decide +kernel
theorem dX7_addSilt_28 : decode cX7_addSilt 28 = .ok (.iadd, 1) := by decide +kernel
theorem dX7_addSilt_29 : decode cX7_addSilt 29 = .ok (.invokestatic 64, 3) := by decide +kernel
theorem dX7_addSilt_32 : decode cX7_addSilt 32 = .ok (.putfield 135, 3) := by decide +kernel
theorem dX7_addSilt_35 : decode cX7_addSilt 35 = .ok (.aload_n 1, 1) := by decide +kernel
theorem dX7_addSilt_36 : decode cX7_addSilt 36 = .ok (.getfield 271, 3) := by decide +kernel
theorem dX7_addSilt_39 : decode cX7_addSilt 39 = .ok (.astore_n 1, 1) := by decide +kernel
theorem dX7_addSilt_40 : decode cX7_addSilt 40 = .ok (.goto (-32), 3) := by decide +kernel
theorem dX7_addSilt_43 : decode cX7_addSilt 43 = .ok (.return_, 1) := by decide +kernel
set_option maxRecDepth 20000 in
theorem ggX7_keepTanks_X3_becomeAs : GoodIn wsX7_keepTanks wsX3_becomeAs := goodIn_r _ [17, 18, 19, 20, 21, 22, 52, 53, 54, 55, 56] (by decide +kernel) (by decide +kernel)
set_option maxRecDepth 20000 in
theorem gX7_keepTanks_X3_becomeAs : GoodIn wsX7_keepTanks (wsV RX7 278 RX3 yX3_becomeAs wsX3_becomeAs) := goodIn_app (goodIn_of _ (by decide +kernel)) ggX7_keepTanks_X3_becomeAs
theorem dX7_keepTanks_0 : decode cX7_keepTanks 0 = .ok (.iconst 0, 1) := by decide +kernel
theorem dX7_keepTanks_1 : decode cX7_keepTanks 1 = .ok (.istore_n 1, 1) := by decide +kernel
theorem dX7_keepTanks_2 : decode cX7_keepTanks 2 = .ok (.iconst (-1), 1) := by decide +kernel
theorem dX7_keepTanks_3 : decode cX7_keepTanks 3 = .ok (.istore_n 2, 1) := by decide +kernel
theorem dX7_keepTanks_4 : decode cX7_keepTanks 4 = .ok (.aload_n 0, 1) := by decide +kernel
theorem dX7_keepTanks_5 : decode cX7_keepTanks 5 = .ok (.getfield 87, 3) := by decide +kernel
theorem dX7_keepTanks_8 : decode cX7_keepTanks 8 = .ok (.getfield 267, 3) := by decide +kernel
theorem dX7_keepTanks_11 : decode cX7_keepTanks 11 = .ok (.astore_n 3, 1) := by decide +kernel
theorem dX7_keepTanks_12 : decode cX7_keepTanks 12 = .ok (.aload_n 3, 1) := by decide +kernel
theorem dX7_keepTanks_13 : decode cX7_keepTanks 13 = .ok (.ifnull 66, 3) := by decide +kernel
theorem dX7_keepTanks_16 : decode cX7_keepTanks 16 = .ok (.aload_n 3, 1) := by decide +kernel
theorem dX7_keepTanks_17 : decode cX7_keepTanks 17 = .ok (.getfield 274, 3) := by decide +kernel
theorem dX7_keepTanks_20 : decode cX7_keepTanks 20 = .ok (.getfield 112, 3) := by decide +kernel
theorem dX7_keepTanks_23 : decode cX7_keepTanks 23 = .ok (.ifCond .eq 37, 3) := by decide +kernel
theorem dX7_keepTanks_26 : decode cX7_keepTanks 26 = .ok (.aload_n 3, 1) := by decide +kernel
theorem dX7_keepTanks_27 : decode cX7_keepTanks 27 = .ok (.getfield 108, 3) := by decide +kernel
theorem dX7_keepTanks_30 : decode cX7_keepTanks 30 = .ok (.getfield 112, 3) := by decide +kernel
theorem dX7_keepTanks_33 : decode cX7_keepTanks 33 = .ok (.ifCond .ne 27, 3) := by decide +kernel
theorem dX7_keepTanks_36 : decode cX7_keepTanks 36 = .ok (.aload_n 3, 1) := by decide +kernel
theorem dX7_keepTanks_37 : decode cX7_keepTanks 37 = .ok (.aload_n 0, 1) := by decide +kernel
theorem dX7_keepTanks_38 : decode cX7_keepTanks 38 = .ok (.getfield 43, 3) := by decide +kernel
theorem dX7_keepTanks_41 : decode cX7_keepTanks 41 = .ok (.putfield 190, 3) := by decide +kernel
theorem dX7_keepTanks_44 : decode cX7_keepTanks 44 = .ok (.iload_n 1, 1) := by decide +kernel
theorem dX7_keepTanks_45 : decode cX7_keepTanks 45 = .ok (.ifCond .ne 10, 3) := by decide +kernel
theorem dX7_keepTanks_48 : decode cX7_keepTanks 48 = .ok (.aload_n 3, 1) := by decide +kernel
theorem dX7_keepTanks_49 : decode cX7_keepTanks 49 = .ok (.getfield 277, 3) := by decide +kernel
theorem dX7_keepTanks_52 : decode cX7_keepTanks 52 = .ok (.goto 4, 3) := by decide +kernel
theorem dX7_keepTanks_55 : decode cX7_keepTanks 55 = .ok (.iload_n 2, 1) := by decide +kernel
theorem dX7_keepTanks_56 : decode cX7_keepTanks 56 = .ok (.istore_n 2, 1) := by decide +kernel
theorem dX7_keepTanks_57 : decode cX7_keepTanks 57 = .ok (.iinc 1 1, 3) := by decide +kernel
theorem dX7_keepTanks_60 : decode cX7_keepTanks 60 = .ok (.aload_n 3, 1) := by decide +kernel
theorem dX7_keepTanks_61 : decode cX7_keepTanks 61 = .ok (.getfield 108, 3) := by decide +kernel
theorem dX7_keepTanks_64 : decode cX7_keepTanks 64 = .ok (.aload_n 3, 1) := by decide +kernel
theorem dX7_keepTanks_65 : decode cX7_keepTanks 65 = .ok (.getfield 274, 3) := by decide +kernel
theorem dX7_keepTanks_68 : decode cX7_keepTanks 68 = .ok (.invokevirtual 278, 3) := by decide +kernel
theorem dX7_keepTanks_71 : decode cX7_keepTanks 71 = .ok (.aload_n 3, 1) := by decide +kernel
theorem dX7_keepTanks_72 : decode cX7_keepTanks 72 = .ok (.getfield 271, 3) := by decide +kernel
theorem dX7_keepTanks_75 : decode cX7_keepTanks 75 = .ok (.astore_n 3, 1) := by decide +kernel
theorem dX7_keepTanks_76 : decode cX7_keepTanks 76 = .ok (.goto (-64), 3) := by decide +kernel
theorem dX7_keepTanks_79 : decode cX7_keepTanks 79 = .ok (.iload_n 1, 1) := by decide +kernel
theorem dX7_keepTanks_80 : decode cX7_keepTanks 80 = .ok (.ifCond .le 21, 3) := by decide +kernel
theorem dX7_keepTanks_83 : decode cX7_keepTanks 83 = .ok (.aload_n 0, 1) := by decide +kernel
theorem dX7_keepTanks_84 : decode cX7_keepTanks 84 = .ok (.aload_n 0, 1) := by decide +kernel
theorem dX7_keepTanks_85 : decode cX7_keepTanks 85 = .ok (.getfield 43, 3) := by decide +kernel
theorem dX7_keepTanks_88 : decode cX7_keepTanks 88 = .ok (.putfield 55, 3) := by decide +kernel
theorem dX7_keepTanks_91 : decode cX7_keepTanks 91 = .ok (.aload_n 0, 1) := by decide +kernel
theorem dX7_keepTanks_92 : decode cX7_keepTanks 92 = .ok (.iload_n 2, 1) := by decide +kernel
theorem dX7_keepTanks_93 : decode cX7_keepTanks 93 = .ok (.putfield 58, 3) := by decide +kernel
theorem dX7_keepTanks_96 : decode cX7_keepTanks 96 = .ok (.aload_n 0, 1) := by decide +kernel
theorem dX7_keepTanks_97 : decode cX7_keepTanks 97 = .ok (.iload_n 1, 1) := by decide +kernel
theorem dX7_keepTanks_98 : decode cX7_keepTanks 98 = .ok (.putfield 61, 3) := by decide +kernel
theorem dX7_keepTanks_101 : decode cX7_keepTanks 101 = .ok (.return_, 1) := by decide +kernel
set_option maxRecDepth 20000 in
theorem ggX7_keepFields_X7_fieldAt : GoodIn wsX7_keepFields wsX7_fieldAt := goodIn_r _ [6, 7, 22, 23, 24, 25, 26, 27, 28, 29, 30, 31, 32, 33, 34, 35, 36] (by decide +kernel) (by decide +kernel)
set_option maxRecDepth 20000 in
theorem gX7_keepFields_X7_fieldAt : GoodIn wsX7_keepFields (wsV RX7 197 RX7 yX7_fieldAt wsX7_fieldAt) := goodIn_app (goodIn_of _ (by decide +kernel)) ggX7_keepFields_X7_fieldAt
set_option maxRecDepth 20000 in
theorem ggX7_keepFields_X1_keepShare : GoodIn wsX7_keepFields wsX1_keepShare := goodIn_r _ [12, 13, 14, 15, 16, 17, 18, 19, 11, 20, 21, 37, 38, 39, 40, 41, 42, 43, 44, 45, 46, 47, 48] (by decide +kernel) (by decide +kernel)
set_option maxRecDepth 20000 in
theorem gX7_keepFields_X1_keepShare : GoodIn wsX7_keepFields (wsV RX7 281 RX1 yX1_keepShare wsX1_keepShare) := goodIn_app (goodIn_of _ (by decide +kernel)) ggX7_keepFields_X1_keepShare
theorem dX7_keepFields_0 : decode cX7_keepFields 0 = .ok (.iconst 0, 1) := by decide +kernel
theorem dX7_keepFields_1 : decode cX7_keepFields 1 = .ok (.istore_n 1, 1) := by decide +kernel
theorem dX7_keepFields_2 : decode cX7_keepFields 2 = .ok (.iload_n 1, 1) := by decide +kernel
theorem dX7_keepFields_3 : decode cX7_keepFields 3 = .ok (.aload_n 0, 1) := by decide +kernel
theorem dX7_keepFields_4 : decode cX7_keepFields 4 = .ok (.getfield 39, 3) := by decide +kernel
theorem dX7_keepFields_7 : decode cX7_keepFields 7 = .ok (.if_icmp .ge 23, 3) := by decide +kernel
theorem dX7_keepFields_10 : decode cX7_keepFields 10 = .ok (.aload_n 0, 1) := by decide +kernel
theorem dX7_keepFields_11 : decode cX7_keepFields 11 = .ok (.iload_n 1, 1) := by decide +kernel
theorem dX7_keepFields_12 : decode cX7_keepFields 12 = .ok (.invokevirtual 197, 3) := by decide +kernel
theorem dX7_keepFields_15 : decode cX7_keepFields 15 = .ok (.astore_n 2, 1) := by decide +kernel
theorem dX7_keepFields_16 : decode cX7_keepFields 16 = .ok (.aload_n 2, 1) := by decide +kernel
theorem dX7_keepFields_17 : decode cX7_keepFields 17 = .ok (.ifnull 7, 3) := by decide +kernel
theorem dX7_keepFields_20 : decode cX7_keepFields 20 = .ok (.aload_n 2, 1) := by decide +kernel
theorem dX7_keepFields_21 : decode cX7_keepFields 21 = .ok (.invokevirtual 281, 3) := by decide +kernel
theorem dX7_keepFields_24 : decode cX7_keepFields 24 = .ok (.iinc 1 1, 3) := by decide +kernel
theorem dX7_keepFields_27 : decode cX7_keepFields 27 = .ok (.goto (-25), 3) := by decide +kernel
theorem dX7_keepFields_30 : decode cX7_keepFields 30 = .ok (.return_, 1) := by decide +kernel
set_option maxRecDepth 20000 in
theorem ggX7_waterTried_X2_startFromNow : GoodIn wsX7_waterTried wsX2_startFromNow := goodIn_r _ [9, 10, 11, 12, 13, 14, 15, 16, 17, 18, 19, 20, 21, 22, 23, 136, 137, 138, 139, 121, 122, 123, 124, 125, 126, 127, 128, 129, 130, 131, 132, 133, 134, 135] (by decide +kernel) (by decide +kernel)
set_option maxRecDepth 20000 in
theorem gX7_waterTried_X2_startFromNow : GoodIn wsX7_waterTried (wsV RX7 162 RX2 yX2_startFromNow wsX2_startFromNow) := goodIn_app (goodIn_of _ (by decide +kernel)) ggX7_waterTried_X2_startFromNow
set_option maxRecDepth 20000 in
theorem ggX7_waterTried_X2_passDay : GoodIn wsX7_waterTried wsX2_passDay := goodIn_r _ [27, 28, 29, 10, 30, 13, 31, 32, 33, 34, 35, 36, 37, 38, 39, 40, 41, 42, 43, 8, 44, 11, 45, 46, 47, 48, 49, 50, 51, 52, 53, 54, 55, 56, 57, 58, 59, 60, 61, 62, 63, 64, 65, 66, 67, 68, 69, 70, 71, 72, 73, 74, 75, 76, 77, 78, 79, 80, 81, 82, 83, 84, 85, 86, 87, 88, 89, 90, 91, 92, 93, 94, 95, 96, 97, 98, 99, 100, 101, 102, 103, 104, 105, 136, 137, 138, 139, 121, 122, 123, 124, 125, 126, 127, 128, 129, 130, 140, 141, 142, 143, 131, 132, 133, 134, 135, 144, 145, 146, 147, 148, 149, 150, 151, 152, 153, 154, 155, 156, 157, 158, 159, 160, 161] (by decide +kernel) (by decide +kernel)
set_option maxRecDepth 20000 in
theorem gX7_waterTried_X2_passDay : GoodIn wsX7_waterTried (wsV RX7 165 RX2 yX2_passDay wsX2_passDay) := goodIn_app (goodIn_of _ (by decide +kernel)) ggX7_waterTried_X2_passDay
theorem dX7_waterTried_0 : decode cX7_waterTried 0 = .ok (.aload_n 0, 1) := by decide +kernel
theorem dX7_waterTried_1 : decode cX7_waterTried 1 = .ok (.getfield 87, 3) := by decide +kernel
theorem dX7_waterTried_4 : decode cX7_waterTried 4 = .ok (.invokevirtual 162, 3) := by decide +kernel
theorem dX7_waterTried_7 : decode cX7_waterTried 7 = .ok (.aload_n 2, 1) := by decide +kernel
theorem dX7_waterTried_8 : decode cX7_waterTried 8 = .ok (.ifnull 11, 3) := by decide +kernel
theorem dX7_waterTried_11 : decode cX7_waterTried 11 = .ok (.aload_n 2, 1) := by decide +kernel
theorem dX7_waterTried_12 : decode cX7_waterTried 12 = .ok (.getfield 274, 3) := by decide +kernel
theorem dX7_waterTried_15 : decode cX7_waterTried 15 = .ok (.iconst 0, 1) := by decide +kernel
theorem dX7_waterTried_16 : decode cX7_waterTried 16 = .ok (.putfield 132, 3) := by decide +kernel
theorem dX7_waterTried_19 : decode cX7_waterTried 19 = .ok (.iconst 0, 1) := by decide +kernel
theorem dX7_waterTried_20 : decode cX7_waterTried 20 = .ok (.istore 5, 2) := by decide +kernel
theorem dX7_waterTried_22 : decode cX7_waterTried 22 = .ok (.iload 5, 2) := by decide +kernel
theorem dX7_waterTried_24 : decode cX7_waterTried 24 = .ok (.iload_n 3, 1) := by decide +kernel
theorem dX7_waterTried_25 : decode cX7_waterTried 25 = .ok (.if_icmp .ge 18, 3) := by decide +kernel
theorem dX7_waterTried_28 : decode cX7_waterTried 28 = .ok (.aload_n 0, 1) := by decide +kernel
theorem dX7_waterTried_29 : decode cX7_waterTried 29 = .ok (.getfield 87, 3) := by decide +kernel
theorem dX7_waterTried_32 : decode cX7_waterTried 32 = .ok (.iload 4, 2) := by decide +kernel
theorem dX7_waterTried_34 : decode cX7_waterTried 34 = .ok (.invokevirtual 165, 3) := by decide +kernel
theorem dX7_waterTried_37 : decode cX7_waterTried 37 = .ok (.iinc 5 1, 3) := by decide +kernel
theorem dX7_waterTried_40 : decode cX7_waterTried 40 = .ok (.goto (-18), 3) := by decide +kernel
theorem dX7_waterTried_43 : decode cX7_waterTried 43 = .ok (.aload_n 1, 1) := by decide +kernel
theorem dX7_waterTried_44 : decode cX7_waterTried 44 = .ok (.getfield 274, 3) := by decide +kernel
theorem dX7_waterTried_47 : decode cX7_waterTried 47 = .ok (.getfield 122, 3) := by decide +kernel
theorem dX7_waterTried_50 : decode cX7_waterTried 50 = .ok (.ireturn, 1) := by decide +kernel
set_option maxRecDepth 20000 in
theorem ggX7_areasFedBy_X2_startFromNow : GoodIn wsX7_areasFedBy wsX2_startFromNow := goodIn_r _ [9, 10, 11, 12, 13, 14, 15, 16, 17, 18, 19, 20, 21, 22, 23, 145, 146, 147, 148, 130, 131, 132, 133, 134, 135, 136, 137, 138, 139, 140, 141, 142, 143, 144] (by decide +kernel) (by decide +kernel)
set_option maxRecDepth 20000 in
theorem gX7_areasFedBy_X2_startFromNow : GoodIn wsX7_areasFedBy (wsV RX7 162 RX2 yX2_startFromNow wsX2_startFromNow) := goodIn_app (goodIn_of _ (by decide +kernel)) ggX7_areasFedBy_X2_startFromNow
set_option maxRecDepth 20000 in
theorem ggX7_areasFedBy_X7_tankAt : GoodIn wsX7_areasFedBy wsX7_tankAt := goodIn_r _ [28, 29, 115, 116, 117, 118, 119, 120, 121, 122, 123, 124, 125, 126, 127, 128, 129] (by decide +kernel) (by decide +kernel)
set_option maxRecDepth 20000 in
theorem gX7_areasFedBy_X7_tankAt : GoodIn wsX7_areasFedBy (wsV RX7 91 RX7 yX7_tankAt wsX7_tankAt) := goodIn_app (goodIn_of _ (by decide +kernel)) ggX7_areasFedBy_X7_tankAt
set_option maxRecDepth 20000 in
theorem ggX7_areasFedBy_X7_openingIn : GoodIn wsX7_areasFedBy wsX7_openingIn := goodIn_r _ [32] (by decide +kernel) (by decide +kernel)
set_option maxRecDepth 20000 in
theorem gX7_areasFedBy_X7_openingIn : GoodIn wsX7_areasFedBy (va_wsS RX7 248 yX7_openingIn wsX7_openingIn) := goodIn_app (goodIn_of _ (by decide +kernel)) ggX7_areasFedBy_X7_openingIn
set_option maxRecDepth 20000 in
theorem ggX7_areasFedBy_X2_passDay : GoodIn wsX7_areasFedBy wsX2_passDay := goodIn_r _ [36, 37, 38, 10, 39, 13, 40, 41, 42, 43, 44, 45, 46, 47, 48, 49, 50, 51, 52, 8, 53, 11, 54, 55, 56, 57, 58, 59, 60, 61, 62, 63, 64, 65, 66, 67, 68, 69, 70, 71, 72, 73, 74, 75, 76, 77, 78, 79, 80, 81, 82, 83, 84, 85, 86, 87, 88, 89, 90, 91, 92, 93, 94, 95, 96, 97, 98, 99, 100, 101, 102, 103, 104, 105, 106, 107, 108, 109, 110, 111, 112, 113, 114, 145, 146, 147, 148, 130, 131, 132, 133, 134, 135, 136, 137, 138, 139, 149, 150, 151, 152, 140, 141, 142, 143, 144, 153, 154, 155, 156, 157, 158, 159, 160, 161, 162, 163, 164, 165, 166, 167, 168, 169, 170] (by decide +kernel) (by decide +kernel)
set_option maxRecDepth 20000 in
theorem gX7_areasFedBy_X2_passDay : GoodIn wsX7_areasFedBy (wsV RX7 165 RX2 yX2_passDay wsX2_passDay) := goodIn_app (goodIn_of _ (by decide +kernel)) ggX7_areasFedBy_X2_passDay
theorem dX7_areasFedBy_0 : decode cX7_areasFedBy 0 = .ok (.aload_n 0, 1) := by decide +kernel
theorem dX7_areasFedBy_1 : decode cX7_areasFedBy 1 = .ok (.getfield 87, 3) := by decide +kernel
theorem dX7_areasFedBy_4 : decode cX7_areasFedBy 4 = .ok (.invokevirtual 162, 3) := by decide +kernel
theorem dX7_areasFedBy_7 : decode cX7_areasFedBy 7 = .ok (.iconst 0, 1) := by decide +kernel
theorem dX7_areasFedBy_8 : decode cX7_areasFedBy 8 = .ok (.istore 6, 2) := by decide +kernel
theorem dX7_areasFedBy_10 : decode cX7_areasFedBy 10 = .ok (.iload 6, 2) := by decide +kernel
theorem dX7_areasFedBy_12 : decode cX7_areasFedBy 12 = .ok (.iload_n 3, 1) := by decide +kernel
theorem dX7_areasFedBy_13 : decode cX7_areasFedBy 13 = .ok (.if_icmp .ge 42, 3) := by decide +kernel
theorem dX7_areasFedBy_16 : decode cX7_areasFedBy 16 = .ok (.aload_n 0, 1) := by decide +kernel
theorem dX7_areasFedBy_17 : decode cX7_areasFedBy 17 = .ok (.iload_n 2, 1) := by decide +kernel
theorem dX7_areasFedBy_18 : decode cX7_areasFedBy 18 = .ok (.iload 6, 2) := by decide +kernel
theorem dX7_areasFedBy_20 : decode cX7_areasFedBy 20 = .ok (.iadd, 1) := by decide +kernel
theorem dX7_areasFedBy_21 : decode cX7_areasFedBy 21 = .ok (.invokevirtual 91, 3) := by decide +kernel
theorem dX7_areasFedBy_24 : decode cX7_areasFedBy 24 = .ok (.astore 7, 2) := by decide +kernel
theorem dX7_areasFedBy_26 : decode cX7_areasFedBy 26 = .ok (.aload 7, 2) := by decide +kernel
theorem dX7_areasFedBy_28 : decode cX7_areasFedBy 28 = .ok (.ifnull 21, 3) := by decide +kernel
theorem dX7_areasFedBy_31 : decode cX7_areasFedBy 31 = .ok (.aload 7, 2) := by decide +kernel
theorem dX7_areasFedBy_33 : decode cX7_areasFedBy 33 = .ok (.getfield 274, 3) := by decide +kernel
theorem dX7_areasFedBy_36 : decode cX7_areasFedBy 36 = .ok (.iload_n 1, 1) := by decide +kernel
theorem dX7_areasFedBy_37 : decode cX7_areasFedBy 37 = .ok (.iload_n 3, 1) := by decide +kernel
theorem dX7_areasFedBy_38 : decode cX7_areasFedBy 38 = .ok (.iconst 1, 1) := by decide +kernel
theorem dX7_areasFedBy_39 : decode cX7_areasFedBy 39 = .ok (.isub, 1) := by decide +kernel
theorem dX7_areasFedBy_40 : decode cX7_areasFedBy 40 = .ok (.iload 6, 2) := by decide +kernel
theorem dX7_areasFedBy_42 : decode cX7_areasFedBy 42 = .ok (.isub, 1) := by decide +kernel
theorem dX7_areasFedBy_43 : decode cX7_areasFedBy 43 = .ok (.invokestatic 248, 3) := by decide +kernel
theorem dX7_areasFedBy_46 : decode cX7_areasFedBy 46 = .ok (.putfield 132, 3) := by decide +kernel
theorem dX7_areasFedBy_49 : decode cX7_areasFedBy 49 = .ok (.iinc 6 1, 3) := by decide +kernel
theorem dX7_areasFedBy_52 : decode cX7_areasFedBy 52 = .ok (.goto (-42), 3) := by decide +kernel
theorem dX7_areasFedBy_55 : decode cX7_areasFedBy 55 = .ok (.iconst 0, 1) := by decide +kernel
theorem dX7_areasFedBy_56 : decode cX7_areasFedBy 56 = .ok (.istore 6, 2) := by decide +kernel
theorem dX7_areasFedBy_58 : decode cX7_areasFedBy 58 = .ok (.iconst 0, 1) := by decide +kernel
theorem dX7_areasFedBy_59 : decode cX7_areasFedBy 59 = .ok (.istore 7, 2) := by decide +kernel
theorem dX7_areasFedBy_61 : decode cX7_areasFedBy 61 = .ok (.iload 7, 2) := by decide +kernel
theorem dX7_areasFedBy_63 : decode cX7_areasFedBy 63 = .ok (.iload 4, 2) := by decide +kernel
theorem dX7_areasFedBy_65 : decode cX7_areasFedBy 65 = .ok (.if_icmp .ge 30, 3) := by decide +kernel
theorem dX7_areasFedBy_68 : decode cX7_areasFedBy 68 = .ok (.aload_n 0, 1) := by decide +kernel
theorem dX7_areasFedBy_69 : decode cX7_areasFedBy 69 = .ok (.getfield 87, 3) := by decide +kernel
theorem dX7_areasFedBy_72 : decode cX7_areasFedBy 72 = .ok (.iload 5, 2) := by decide +kernel
theorem dX7_areasFedBy_74 : decode cX7_areasFedBy 74 = .ok (.invokevirtual 165, 3) := by decide +kernel
theorem dX7_areasFedBy_77 : decode cX7_areasFedBy 77 = .ok (.iload 6, 2) := by decide +kernel
theorem dX7_areasFedBy_79 : decode cX7_areasFedBy 79 = .ok (.aload_n 0, 1) := by decide +kernel
theorem dX7_areasFedBy_80 : decode cX7_areasFedBy 80 = .ok (.getfield 87, 3) := by decide +kernel
theorem dX7_areasFedBy_83 : decode cX7_areasFedBy 83 = .ok (.getfield 284, 3) := by decide +kernel
theorem dX7_areasFedBy_86 : decode cX7_areasFedBy 86 = .ok (.iadd, 1) := by decide +kernel
theorem dX7_areasFedBy_87 : decode cX7_areasFedBy 87 = .ok (.istore 6, 2) := by decide +kernel
theorem dX7_areasFedBy_89 : decode cX7_areasFedBy 89 = .ok (.iinc 7 1, 3) := by decide +kernel
theorem dX7_areasFedBy_92 : decode cX7_areasFedBy 92 = .ok (.goto (-31), 3) := by decide +kernel
theorem dX7_areasFedBy_95 : decode cX7_areasFedBy 95 = .ok (.iload 6, 2) := by decide +kernel
theorem dX7_areasFedBy_97 : decode cX7_areasFedBy 97 = .ok (.ireturn, 1) := by decide +kernel
theorem dX7_openingIn_0 : decode cX7_openingIn 0 = .ok (.iload_n 0, 1) := by decide +kernel
theorem dX7_openingIn_1 : decode cX7_openingIn 1 = .ok (.istore_n 2, 1) := by decide +kernel
theorem dX7_openingIn_2 : decode cX7_openingIn 2 = .ok (.iconst 0, 1) := by decide +kernel
theorem dX7_openingIn_3 : decode cX7_openingIn 3 = .ok (.istore_n 3, 1) := by decide +kernel
theorem dX7_openingIn_4 : decode cX7_openingIn 4 = .ok (.iload_n 3, 1) := by decide +kernel
theorem dX7_openingIn_5 : decode cX7_openingIn 5 = .ok (.iload_n 1, 1) := by decide +kernel
theorem dX7_openingIn_6 : decode cX7_openingIn 6 = .ok (.if_icmp .ge 13, 3) := by decide +kernel
theorem dX7_openingIn_9 : decode cX7_openingIn 9 = .ok (.iload_n 2, 1) := by decide +kernel
theorem dX7_openingIn_10 : decode cX7_openingIn 10 = .ok (.iconst 5, 1) := by decide +kernel
theorem dX7_openingIn_11 : decode cX7_openingIn 11 = .ok (.idiv, 1) := by decide +kernel
theorem dX7_openingIn_12 : decode cX7_openingIn 12 = .ok (.istore_n 2, 1) := by decide +kernel
theorem dX7_openingIn_13 : decode cX7_openingIn 13 = .ok (.iinc 3 1, 3) := by decide +kernel
theorem dX7_openingIn_16 : decode cX7_openingIn 16 = .ok (.goto (-12), 3) := by decide +kernel
theorem dX7_openingIn_19 : decode cX7_openingIn 19 = .ok (.iload_n 2, 1) := by decide +kernel
theorem dX7_openingIn_20 : decode cX7_openingIn 20 = .ok (.iconst 5, 1) := by decide +kernel
theorem dX7_openingIn_21 : decode cX7_openingIn 21 = .ok (.irem, 1) := by decide +kernel
theorem dX7_openingIn_22 : decode cX7_openingIn 22 = .ok (.iconst 5, 1) := by decide +kernel
theorem dX7_openingIn_23 : decode cX7_openingIn 23 = .ok (.imul, 1) := by decide +kernel
theorem dX7_openingIn_24 : decode cX7_openingIn 24 = .ok (.ireturn, 1) := by decide +kernel
theorem dX8_init_0 : decode cX8_init 0 = .ok (.aload_n 0, 1) := by decide +kernel
theorem dX8_init_1 : decode cX8_init 1 = .ok (.invokespecial 1, 3) := by decide +kernel
theorem dX8_init_4 : decode cX8_init 4 = .ok (.aload_n 0, 1) := by decide +kernel
theorem dX8_init_5 : decode cX8_init 5 = .ok (.bipush 11, 2) := by decide +kernel
theorem dX8_init_7 : decode cX8_init 7 = .ok (.newarray .int, 2) := by decide +kernel
theorem dX8_init_9 : decode cX8_init 9 = .ok (.putfield 7, 3) := by decide +kernel
theorem dX8_init_12 : decode cX8_init 12 = .ok (.aload_n 0, 1) := by decide +kernel
theorem dX8_init_13 : decode cX8_init 13 = .ok (.bipush 11, 2) := by decide +kernel
theorem dX8_init_15 : decode cX8_init 15 = .ok (.newarray .int, 2) := by decide +kernel
theorem dX8_init_17 : decode cX8_init 17 = .ok (.putfield 13, 3) := by decide +kernel
theorem dX8_init_20 : decode cX8_init 20 = .ok (.aload_n 0, 1) := by decide +kernel
theorem dX8_init_21 : decode cX8_init 21 = .ok (.bipush 11, 2) := by decide +kernel
theorem dX8_init_23 : decode cX8_init 23 = .ok (.newarray .int, 2) := by decide +kernel
theorem dX8_init_25 : decode cX8_init 25 = .ok (.putfield 16, 3) := by decide +kernel
theorem dX8_init_28 : decode cX8_init 28 = .ok (.aload_n 0, 1) := by decide +kernel
theorem dX8_init_29 : decode cX8_init 29 = .ok (.bipush 11, 2) := by decide +kernel
theorem dX8_init_31 : decode cX8_init 31 = .ok (.newarray .int, 2) := by decide +kernel
theorem dX8_init_33 : decode cX8_init 33 = .ok (.putfield 19, 3) := by decide +kernel
theorem dX8_init_36 : decode cX8_init 36 = .ok (.aload_n 0, 1) := by decide +kernel
theorem dX8_init_37 : decode cX8_init 37 = .ok (.bipush 11, 2) := by decide +kernel
theorem dX8_init_39 : decode cX8_init 39 = .ok (.newarray .int, 2) := by decide +kernel
theorem dX8_init_41 : decode cX8_init 41 = .ok (.putfield 22, 3) := by decide +kernel
theorem dX8_init_44 : decode cX8_init 44 = .ok (.aload_n 0, 1) := by decide +kernel
theorem dX8_init_45 : decode cX8_init 45 = .ok (.bipush 11, 2) := by decide +kernel
theorem dX8_init_47 : decode cX8_init 47 = .ok (.newarray .int, 2) := by decide +kernel
theorem dX8_init_49 : decode cX8_init 49 = .ok (.putfield 25, 3) := by decide +kernel
theorem dX8_init_52 : decode cX8_init 52 = .ok (.aload_n 0, 1) := by decide +kernel
theorem dX8_init_53 : decode cX8_init 53 = .ok (.bipush 11, 2) := by decide +kernel
theorem dX8_init_55 : decode cX8_init 55 = .ok (.newarray .int, 2) := by decide +kernel
theorem dX8_init_57 : decode cX8_init 57 = .ok (.putfield 28, 3) := by decide +kernel
theorem dX8_init_60 : decode cX8_init 60 = .ok (.aload_n 0, 1) := by decide +kernel
theorem dX8_init_61 : decode cX8_init 61 = .ok (.bipush 11, 2) := by decide +kernel
theorem dX8_init_63 : decode cX8_init 63 = .ok (.newarray .int, 2) := by decide +kernel
theorem dX8_init_65 : decode cX8_init 65 = .ok (.putfield 31, 3) := by decide +kernel
theorem dX8_init_68 : decode cX8_init 68 = .ok (.aload_n 0, 1) := by decide +kernel
theorem dX8_init_69 : decode cX8_init 69 = .ok (.bipush 11, 2) := by decide +kernel
theorem dX8_init_71 : decode cX8_init 71 = .ok (.newarray .int, 2) := by decide +kernel
theorem dX8_init_73 : decode cX8_init 73 = .ok (.putfield 34, 3) := by decide +kernel
theorem dX8_init_76 : decode cX8_init 76 = .ok (.aload_n 0, 1) := by decide +kernel
theorem dX8_init_77 : decode cX8_init 77 = .ok (.bipush 11, 2) := by decide +kernel
theorem dX8_init_79 : decode cX8_init 79 = .ok (.newarray .boolean, 2) := by decide +kernel
theorem dX8_init_81 : decode cX8_init 81 = .ok (.putfield 37, 3) := by decide +kernel
theorem dX8_init_84 : decode cX8_init 84 = .ok (.aload_n 0, 1) := by decide +kernel
theorem dX8_init_85 : decode cX8_init 85 = .ok (.bipush 40, 2) := by decide +kernel
theorem dX8_init_87 : decode cX8_init 87 = .ok (.newarray .int, 2) := by decide +kernel
theorem dX8_init_89 : decode cX8_init 89 = .ok (.putfield 41, 3) := by decide +kernel
theorem dX8_init_92 : decode cX8_init 92 = .ok (.aload_n 0, 1) := by decide +kernel
theorem dX8_init_93 : decode cX8_init 93 = .ok (.bipush 40, 2) := by decide +kernel
theorem dX8_init_95 : decode cX8_init 95 = .ok (.newarray .int, 2) := by decide +kernel
theorem dX8_init_97 : decode cX8_init 97 = .ok (.putfield 44, 3) := by decide +kernel
theorem dX8_init_100 : decode cX8_init 100 = .ok (.aload_n 0, 1) := by decide +kernel
theorem dX8_init_101 : decode cX8_init 101 = .ok (.bipush 40, 2) := by decide +kernel
theorem dX8_init_103 : decode cX8_init 103 = .ok (.newarray .int, 2) := by decide +kernel
theorem dX8_init_105 : decode cX8_init 105 = .ok (.putfield 47, 3) := by decide +kernel
theorem dX8_init_108 : decode cX8_init 108 = .ok (.aload_n 0, 1) := by decide +kernel
theorem dX8_init_109 : decode cX8_init 109 = .ok (.bipush 40, 2) := by decide +kernel
theorem dX8_init_111 : decode cX8_init 111 = .ok (.newarray .int, 2) := by decide +kernel
theorem dX8_init_113 : decode cX8_init 113 = .ok (.putfield 50, 3) := by decide +kernel
theorem dX8_init_116 : decode cX8_init 116 = .ok (.aload_n 0, 1) := by decide +kernel
theorem dX8_init_117 : decode cX8_init 117 = .ok (.bipush 40, 2) := by decide +kernel
theorem dX8_init_119 : decode cX8_init 119 = .ok (.newarray .int, 2) := by decide +kernel
theorem dX8_init_121 : decode cX8_init 121 = .ok (.putfield 53, 3) := by decide +kernel
theorem dX8_init_124 : decode cX8_init 124 = .ok (.aload_n 0, 1) := by decide +kernel
theorem dX8_init_125 : decode cX8_init 125 = .ok (.bipush 40, 2) := by decide +kernel
theorem dX8_init_127 : decode cX8_init 127 = .ok (.newarray .int, 2) := by decide +kernel
theorem dX8_init_129 : decode cX8_init 129 = .ok (.putfield 56, 3) := by decide +kernel
theorem dX8_init_132 : decode cX8_init 132 = .ok (.aload_n 0, 1) := by decide +kernel
theorem dX8_init_133 : decode cX8_init 133 = .ok (.bipush 40, 2) := by decide +kernel
theorem dX8_init_135 : decode cX8_init 135 = .ok (.newarray .int, 2) := by decide +kernel
theorem dX8_init_137 : decode cX8_init 137 = .ok (.putfield 59, 3) := by decide +kernel
theorem dX8_init_140 : decode cX8_init 140 = .ok (.aload_n 0, 1) := by decide +kernel
theorem dX8_init_141 : decode cX8_init 141 = .ok (.bipush 40, 2) := by decide +kernel
theorem dX8_init_143 : decode cX8_init 143 = .ok (.newarray .boolean, 2) := by decide +kernel
theorem dX8_init_145 : decode cX8_init 145 = .ok (.putfield 62, 3) := by decide +kernel
theorem dX8_init_148 : decode cX8_init 148 = .ok (.aload_n 0, 1) := by decide +kernel
theorem dX8_init_149 : decode cX8_init 149 = .ok (.bipush 10, 2) := by decide +kernel
theorem dX8_init_151 : decode cX8_init 151 = .ok (.newarray .int, 2) := by decide +kernel
theorem dX8_init_153 : decode cX8_init 153 = .ok (.putfield 65, 3) := by decide +kernel
theorem dX8_init_156 : decode cX8_init 156 = .ok (.aload_n 0, 1) := by decide +kernel
theorem dX8_init_157 : decode cX8_init 157 = .ok (.iconst (-1), 1) := by decide +kernel
theorem dX8_init_158 : decode cX8_init 158 = .ok (.putfield 68, 3) := by decide +kernel
theorem dX8_init_161 : decode cX8_init 161 = .ok (.aload_n 0, 1) := by decide +kernel
theorem dX8_init_162 : decode cX8_init 162 = .ok (.iconst (-1), 1) := by decide +kernel
theorem dX8_init_163 : decode cX8_init 163 = .ok (.putfield 72, 3) := by decide +kernel
theorem dX8_init_166 : decode cX8_init 166 = .ok (.aload_n 0, 1) := by decide +kernel
theorem dX8_init_167 : decode cX8_init 167 = .ok (.iconst (-1), 1) := by decide +kernel
theorem dX8_init_168 : decode cX8_init 168 = .ok (.putfield 75, 3) := by decide +kernel
theorem dX8_init_171 : decode cX8_init 171 = .ok (.aload_n 0, 1) := by decide +kernel
theorem dX8_init_172 : decode cX8_init 172 = .ok (.sipush 300, 3) := by decide +kernel
theorem dX8_init_175 : decode cX8_init 175 = .ok (.newarray .byte, 2) := by decide +kernel
theorem dX8_init_177 : decode cX8_init 177 = .ok (.putfield 78, 3) := by decide +kernel
theorem dX8_init_180 : decode cX8_init 180 = .ok (.aload_n 0, 1) := by decide +kernel
theorem dX8_init_181 : decode cX8_init 181 = .ok (.sipush 300, 3) := by decide +kernel
theorem dX8_init_184 : decode cX8_init 184 = .ok (.newarray .byte, 2) := by decide +kernel
theorem dX8_init_186 : decode cX8_init 186 = .ok (.putfield 82, 3) := by decide +kernel
theorem dX8_init_189 : decode cX8_init 189 = .ok (.aload_n 0, 1) := by decide +kernel
theorem dX8_init_190 : decode cX8_init 190 = .ok (.iconst (-1), 1) := by decide +kernel
theorem dX8_init_191 : decode cX8_init 191 = .ok (.putfield 85, 3) := by decide +kernel
theorem dX8_init_194 : decode cX8_init 194 = .ok (.aload_n 0, 1) := by decide +kernel
theorem dX8_init_195 : decode cX8_init 195 = .ok (.bipush 28, 2) := by decide +kernel
theorem dX8_init_197 : decode cX8_init 197 = .ok (.newarray .int, 2) := by decide +kernel
theorem dX8_init_199 : decode cX8_init 199 = .ok (.putfield 88, 3) := by decide +kernel
theorem dX8_init_202 : decode cX8_init 202 = .ok (.aload_n 0, 1) := by decide +kernel
theorem dX8_init_203 : decode cX8_init 203 = .ok (.bipush 40, 2) := by decide +kernel
theorem dX8_init_205 : decode cX8_init 205 = .ok (.newarray .int, 2) := by decide +kernel
theorem dX8_init_207 : decode cX8_init 207 = .ok (.putfield 91, 3) := by decide +kernel
theorem dX8_init_210 : decode cX8_init 210 = .ok (.aload_n 0, 1) := by decide +kernel
theorem dX8_init_211 : decode cX8_init 211 = .ok (.bipush 40, 2) := by decide +kernel
theorem dX8_init_213 : decode cX8_init 213 = .ok (.newarray .int, 2) := by decide +kernel
theorem dX8_init_215 : decode cX8_init 215 = .ok (.putfield 94, 3) := by decide +kernel
theorem dX8_init_218 : decode cX8_init 218 = .ok (.aload_n 0, 1) := by decide +kernel
theorem dX8_init_219 : decode cX8_init 219 = .ok (.bipush 40, 2) := by decide +kernel
theorem dX8_init_221 : decode cX8_init 221 = .ok (.newarray .boolean, 2) := by decide +kernel
theorem dX8_init_223 : decode cX8_init 223 = .ok (.putfield 97, 3) := by decide +kernel
theorem dX8_init_226 : decode cX8_init 226 = .ok (.aload_n 0, 1) := by decide +kernel
theorem dX8_init_227 : decode cX8_init 227 = .ok (.bipush 11, 2) := by decide +kernel
theorem dX8_init_229 : decode cX8_init 229 = .ok (.newarray .int, 2) := by decide +kernel
theorem dX8_init_231 : decode cX8_init 231 = .ok (.putfield 100, 3) := by decide +kernel
theorem dX8_init_234 : decode cX8_init 234 = .ok (.aload_n 0, 1) := by decide +kernel
theorem dX8_init_235 : decode cX8_init 235 = .ok (.bipush 11, 2) := by decide +kernel
theorem dX8_init_237 : decode cX8_init 237 = .ok (.newarray .int, 2) := by decide +kernel
theorem dX8_init_239 : decode cX8_init 239 = .ok (.putfield 103, 3) := by decide +kernel
theorem dX8_init_242 : decode cX8_init 242 = .ok (.aload_n 0, 1) := by decide +kernel
theorem dX8_init_243 : decode cX8_init 243 = .ok (.bipush 11, 2) := by decide +kernel
theorem dX8_init_245 : decode cX8_init 245 = .ok (.newarray .boolean, 2) := by decide +kernel
theorem dX8_init_247 : decode cX8_init 247 = .ok (.putfield 106, 3) := by decide +kernel
theorem dX8_init_250 : decode cX8_init 250 = .ok (.aload_n 0, 1) := by decide +kernel
theorem dX8_init_251 : decode cX8_init 251 = .ok (.iconst 2, 1) := by decide +kernel
theorem dX8_init_252 : decode cX8_init 252 = .ok (.bipush 11, 2) := by decide +kernel
theorem dX8_init_254 : decode cX8_init 254 = .ok (.iload_n 1, 1) := by decide +kernel
theorem dX8_init_255 : decode cX8_init 255 = .ok (.invokestatic 109, 3) := by decide +kernel
theorem dX8_init_258 : decode cX8_init 258 = .ok (.invokestatic 115, 3) := by decide +kernel
theorem dX8_init_261 : decode cX8_init 261 = .ok (.putfield 118, 3) := by decide +kernel
theorem dX8_init_264 : decode cX8_init 264 = .ok (.iconst 0, 1) := by decide +kernel
theorem dX8_init_265 : decode cX8_init 265 = .ok (.istore_n 2, 1) := by decide +kernel
theorem dX8_init_266 : decode cX8_init 266 = .ok (.iload_n 2, 1) := by decide +kernel
theorem dX8_init_267 : decode cX8_init 267 = .ok (.bipush 11, 2) := by decide +kernel
theorem dX8_init_269 : decode cX8_init 269 = .ok (.if_icmp .ge 32, 3) := by decide +kernel
theorem dX8_init_272 : decode cX8_init 272 = .ok (.aload_n 0, 1) := by decide +kernel
theorem dX8_init_273 : decode cX8_init 273 = .ok (.getfield 13, 3) := by decide +kernel
theorem dX8_init_276 : decode cX8_init 276 = .ok (.iload_n 2, 1) := by decide +kernel
theorem dX8_init_277 : decode cX8_init 277 = .ok (.bipush 100, 2) := by decide +kernel
theorem dX8_init_279 : decode cX8_init 279 = .ok (.iastore, 1) := by decide +kernel
theorem dX8_init_280 : decode cX8_init 280 = .ok (.aload_n 0, 1) := by decide +kernel
theorem dX8_init_281 : decode cX8_init 281 = .ok (.getfield 16, 3) := by decide +kernel
theorem dX8_init_284 : decode cX8_init 284 = .ok (.iload_n 2, 1) := by decide +kernel
theorem dX8_init_285 : decode cX8_init 285 = .ok (.bipush 50, 2) := by decide +kernel
theorem dX8_init_287 : decode cX8_init 287 = .ok (.iastore, 1) := by decide +kernel
theorem dX8_init_288 : decode cX8_init 288 = .ok (.aload_n 0, 1) := by decide +kernel
theorem dX8_init_289 : decode cX8_init 289 = .ok (.getfield 34, 3) := by decide +kernel
theorem dX8_init_292 : decode cX8_init 292 = .ok (.iload_n 2, 1) := by decide +kernel
theorem dX8_init_293 : decode cX8_init 293 = .ok (.iconst (-1), 1) := by decide +kernel
theorem dX8_init_294 : decode cX8_init 294 = .ok (.iastore, 1) := by decide +kernel
theorem dX8_init_295 : decode cX8_init 295 = .ok (.iinc 2 1, 3) := by decide +kernel
theorem dX8_init_298 : decode cX8_init 298 = .ok (.goto (-32), 3) := by decide +kernel
theorem dX8_init_301 : decode cX8_init 301 = .ok (.return_, 1) := by decide +kernel
theorem dX8_isIn_0 : decode cX8_isIn 0 = .ok (.iload_n 0, 1) := by decide +kernel
theorem dX8_isIn_1 : decode cX8_isIn 1 = .ok (.iload_n 1, 1) := by decide +kernel
theorem dX8_isIn_2 : decode cX8_isIn 2 = .ok (.if_icmp .lt 12, 3) := by decide +kernel
theorem dX8_isIn_5 : decode cX8_isIn 5 = .ok (.iload_n 0, 1) := by decide +kernel
theorem dX8_isIn_6 : decode cX8_isIn 6 = .ok (.iload_n 2, 1) := by decide +kernel
theorem dX8_isIn_7 : decode cX8_isIn 7 = .ok (.if_icmp .gt 7, 3) := by decide +kernel
theorem dX8_isIn_10 : decode cX8_isIn 10 = .ok (.iconst 1, 1) := by decide +kernel
theorem dX8_isIn_11 : decode cX8_isIn 11 = .ok (.goto 4, 3) := by decide +kernel
theorem dX8_isIn_14 : decode cX8_isIn 14 = .ok (.iconst 0, 1) := by decide +kernel
theorem dX8_isIn_15 : decode cX8_isIn 15 = .ok (.ireturn, 1) := by decide +kernel
theorem dX8_one_0 : decode cX8_one 0 = .ok (.iload_n 0, 1) := by decide +kernel
theorem dX8_one_1 : decode cX8_one 1 = .ok (.ifCond .eq 7, 3) := by decide +kernel
theorem dX8_one_4 : decode cX8_one 4 = .ok (.iconst 1, 1) := by decide +kernel
theorem dX8_one_5 : decode cX8_one 5 = .ok (.goto 4, 3) := by decide +kernel
theorem dX8_one_8 : decode cX8_one 8 = .ok (.iconst 0, 1) := by decide +kernel
theorem dX8_one_9 : decode cX8_one 9 = .ok (.ireturn, 1) := by decide +kernel
set_option maxRecDepth 20000 in
theorem ggX8_isTank_X8_isIn : GoodIn wsX8_isTank wsX8_isIn := goodIn_r _ [5] (by decide +kernel) (by decide +kernel)
set_option maxRecDepth 20000 in
theorem gX8_isTank_X8_isIn : GoodIn wsX8_isTank (va_wsS RX8 121 yX8_isIn wsX8_isIn) := goodIn_app (goodIn_of _ (by decide +kernel)) ggX8_isTank_X8_isIn
theorem dX8_isTank_0 : decode cX8_isTank 0 = .ok (.iload_n 1, 1) := by decide +kernel
theorem dX8_isTank_1 : decode cX8_isTank 1 = .ok (.iconst 0, 1) := by decide +kernel
theorem dX8_isTank_2 : decode cX8_isTank 2 = .ok (.aload_n 0, 1) := by decide +kernel
theorem dX8_isTank_3 : decode cX8_isTank 3 = .ok (.getfield 118, 3) := by decide +kernel
theorem dX8_isTank_6 : decode cX8_isTank 6 = .ok (.iconst 1, 1) := by decide +kernel
theorem dX8_isTank_7 : decode cX8_isTank 7 = .ok (.isub, 1) := by decide +kernel
theorem dX8_isTank_8 : decode cX8_isTank 8 = .ok (.invokestatic 121, 3) := by decide +kernel
theorem dX8_isTank_11 : decode cX8_isTank 11 = .ok (.ireturn, 1) := by decide +kernel
set_option maxRecDepth 20000 in
theorem ggX8_tank_X8_isTank : GoodIn wsX8_tank wsX8_isTank := goodIn_r _ [9, 10, 11, 12, 8, 13, 14, 15, 16, 17, 18, 19, 20, 21, 22, 23, 24, 25, 26, 27, 28, 29, 30, 31, 32, 33, 34, 35, 36, 37, 38, 39, 40, 41, 42, 43, 44, 45, 46, 47, 48, 49, 50, 51, 52, 53, 54, 55, 56, 57, 58, 59, 60] (by decide +kernel) (by decide +kernel)
set_option maxRecDepth 20000 in
theorem gX8_tank_X8_isTank : GoodIn wsX8_tank (wsV RX8 125 RX8 yX8_isTank wsX8_isTank) := goodIn_app (goodIn_of _ (by decide +kernel)) ggX8_tank_X8_isTank
set_option maxRecDepth 20000 in
theorem ggX8_tank_X8_isIn : GoodIn wsX8_tank wsX8_isIn := goodIn_r _ [13] (by decide +kernel) (by decide +kernel)
set_option maxRecDepth 20000 in
theorem gX8_tank_X8_isIn : GoodIn wsX8_tank (va_wsS RX8 121 yX8_isIn wsX8_isIn) := goodIn_app (goodIn_of _ (by decide +kernel)) ggX8_tank_X8_isIn
theorem dX8_tank_0 : decode cX8_tank 0 = .ok (.aload_n 0, 1) := by decide +kernel
theorem dX8_tank_1 : decode cX8_tank 1 = .ok (.iload_n 1, 1) := by decide +kernel
theorem dX8_tank_2 : decode cX8_tank 2 = .ok (.invokevirtual 125, 3) := by decide +kernel
theorem dX8_tank_5 : decode cX8_tank 5 = .ok (.ifCond .eq 44, 3) := by decide +kernel
theorem dX8_tank_8 : decode cX8_tank 8 = .ok (.iload_n 2, 1) := by decide +kernel
theorem dX8_tank_9 : decode cX8_tank 9 = .ok (.iconst 0, 1) := by decide +kernel
theorem dX8_tank_10 : decode cX8_tank 10 = .ok (.bipush 20, 2) := by decide +kernel
theorem dX8_tank_12 : decode cX8_tank 12 = .ok (.invokestatic 121, 3) := by decide +kernel
theorem dX8_tank_15 : decode cX8_tank 15 = .ok (.ifCond .eq 34, 3) := by decide +kernel
theorem dX8_tank_18 : decode cX8_tank 18 = .ok (.iload_n 3, 1) := by decide +kernel
theorem dX8_tank_19 : decode cX8_tank 19 = .ok (.bipush 10, 2) := by decide +kernel
theorem dX8_tank_21 : decode cX8_tank 21 = .ok (.sipush 1000, 3) := by decide +kernel
theorem dX8_tank_24 : decode cX8_tank 24 = .ok (.invokestatic 121, 3) := by decide +kernel
theorem dX8_tank_27 : decode cX8_tank 27 = .ok (.ifCond .eq 22, 3) := by decide +kernel
theorem dX8_tank_30 : decode cX8_tank 30 = .ok (.iload 4, 2) := by decide +kernel
theorem dX8_tank_32 : decode cX8_tank 32 = .ok (.iconst 0, 1) := by decide +kernel
theorem dX8_tank_33 : decode cX8_tank 33 = .ok (.sipush 500, 3) := by decide +kernel
theorem dX8_tank_36 : decode cX8_tank 36 = .ok (.invokestatic 121, 3) := by decide +kernel
theorem dX8_tank_39 : decode cX8_tank 39 = .ok (.ifCond .eq 10, 3) := by decide +kernel
theorem dX8_tank_42 : decode cX8_tank 42 = .ok (.aload_n 0, 1) := by decide +kernel
theorem dX8_tank_43 : decode cX8_tank 43 = .ok (.getfield 129, 3) := by decide +kernel
theorem dX8_tank_46 : decode cX8_tank 46 = .ok (.ifCond .le 5, 3) := by decide +kernel
theorem dX8_tank_49 : decode cX8_tank 49 = .ok (.iconst 0, 1) := by decide +kernel
theorem dX8_tank_50 : decode cX8_tank 50 = .ok (.ireturn, 1) := by decide +kernel
theorem dX8_tank_51 : decode cX8_tank 51 = .ok (.aload_n 0, 1) := by decide +kernel
theorem dX8_tank_52 : decode cX8_tank 52 = .ok (.getfield 7, 3) := by decide +kernel
theorem dX8_tank_55 : decode cX8_tank 55 = .ok (.iload_n 1, 1) := by decide +kernel
theorem dX8_tank_56 : decode cX8_tank 56 = .ok (.iload_n 2, 1) := by decide +kernel
theorem dX8_tank_57 : decode cX8_tank 57 = .ok (.iastore, 1) := by decide +kernel
theorem dX8_tank_58 : decode cX8_tank 58 = .ok (.aload_n 0, 1) := by decide +kernel
theorem dX8_tank_59 : decode cX8_tank 59 = .ok (.getfield 13, 3) := by decide +kernel
theorem dX8_tank_62 : decode cX8_tank 62 = .ok (.iload_n 1, 1) := by decide +kernel
theorem dX8_tank_63 : decode cX8_tank 63 = .ok (.iload_n 3, 1) := by decide +kernel
theorem dX8_tank_64 : decode cX8_tank 64 = .ok (.iastore, 1) := by decide +kernel
theorem dX8_tank_65 : decode cX8_tank 65 = .ok (.aload_n 0, 1) := by decide +kernel
theorem dX8_tank_66 : decode cX8_tank 66 = .ok (.getfield 16, 3) := by decide +kernel
theorem dX8_tank_69 : decode cX8_tank 69 = .ok (.iload_n 1, 1) := by decide +kernel
theorem dX8_tank_70 : decode cX8_tank 70 = .ok (.iload 4, 2) := by decide +kernel
theorem dX8_tank_72 : decode cX8_tank 72 = .ok (.iastore, 1) := by decide +kernel
theorem dX8_tank_73 : decode cX8_tank 73 = .ok (.iconst 1, 1) := by decide +kernel
theorem dX8_tank_74 : decode cX8_tank 74 = .ok (.ireturn, 1) := by decide +kernel
theorem dX8_room_0 : decode cX8_room 0 = .ok (.iload_n 2, 1) := by decide +kernel
theorem dX8_room_1 : decode cX8_room 1 = .ok (.ifCond .eq 7, 3) := by decide +kernel
theorem dX8_room_4 : decode cX8_room 4 = .ok (.iconst 0, 1) := by decide +kernel
theorem dX8_room_5 : decode cX8_room 5 = .ok (.goto 16, 3) := by decide +kernel
theorem dX8_room_8 : decode cX8_room 8 = .ok (.aload_n 0, 1) := by decide +kernel
theorem dX8_room_9 : decode cX8_room 9 = .ok (.getfield 13, 3) := by decide +kernel
theorem dX8_room_12 : decode cX8_room 12 = .ok (.iload_n 1, 1) := by decide +kernel
theorem dX8_room_13 : decode cX8_room 13 = .ok (.iaload, 1) := by decide +kernel
theorem dX8_room_14 : decode cX8_room 14 = .ok (.aload_n 0, 1) := by decide +kernel
theorem dX8_room_15 : decode cX8_room 15 = .ok (.getfield 25, 3) := by decide +kernel
theorem dX8_room_18 : decode cX8_room 18 = .ok (.iload_n 1, 1) := by decide +kernel
theorem dX8_room_19 : decode cX8_room 19 = .ok (.iaload, 1) := by decide +kernel
theorem dX8_room_20 : decode cX8_room 20 = .ok (.isub, 1) := by decide +kernel
theorem dX8_room_21 : decode cX8_room 21 = .ok (.ireturn, 1) := by decide +kernel
set_option maxRecDepth 20000 in
theorem ggX8_water_X8_isTank : GoodIn wsX8_water wsX8_isTank := goodIn_r _ [8, 9, 10, 11, 7, 12, 19, 20, 21, 22, 23, 24, 25, 26, 27, 28, 29, 30, 31, 32, 33, 34, 35, 36, 37, 38, 39, 40, 41, 42, 43, 44, 45, 46, 47, 48, 49, 50, 51, 52, 53, 54, 55, 56, 57, 58, 59, 60, 61, 62, 63, 64, 65] (by decide +kernel) (by decide +kernel)
set_option maxRecDepth 20000 in
theorem gX8_water_X8_isTank : GoodIn wsX8_water (wsV RX8 125 RX8 yX8_isTank wsX8_isTank) := goodIn_app (goodIn_of _ (by decide +kernel)) ggX8_water_X8_isTank
set_option maxRecDepth 20000 in
theorem ggX8_water_X8_room : GoodIn wsX8_water wsX8_room := goodIn_r _ [16, 17, 18, 19, 20, 21, 22, 23, 24, 25, 26, 27, 28, 29, 30, 31, 32, 33, 34, 35, 36, 37, 38, 39, 40, 41, 42, 43, 44, 45, 46, 47, 48, 49, 50, 51, 52, 53, 54, 55, 56, 57, 58, 59, 60, 61, 62, 63, 64, 65] (by decide +kernel) (by decide +kernel)
set_option maxRecDepth 20000 in
theorem gX8_water_X8_room : GoodIn wsX8_water (wsV RX8 132 RX8 yX8_room wsX8_room) := goodIn_app (goodIn_of _ (by decide +kernel)) ggX8_water_X8_room
set_option maxRecDepth 20000 in
theorem ggX8_water_X8_isIn : GoodIn wsX8_water wsX8_isIn := goodIn_r _ [12] (by decide +kernel) (by decide +kernel)
set_option maxRecDepth 20000 in
theorem gX8_water_X8_isIn : GoodIn wsX8_water (va_wsS RX8 121 yX8_isIn wsX8_isIn) := goodIn_app (goodIn_of _ (by decide +kernel)) ggX8_water_X8_isIn
theorem dX8_water_0 : decode cX8_water 0 = .ok (.aload_n 0, 1) := by decide +kernel
theorem dX8_water_1 : decode cX8_water 1 = .ok (.iload_n 1, 1) := by decide +kernel
theorem dX8_water_2 : decode cX8_water 2 = .ok (.invokevirtual 125, 3) := by decide +kernel
theorem dX8_water_5 : decode cX8_water 5 = .ok (.ifCond .eq 22, 3) := by decide +kernel
theorem dX8_water_8 : decode cX8_water 8 = .ok (.iload_n 2, 1) := by decide +kernel
theorem dX8_water_9 : decode cX8_water 9 = .ok (.iconst 0, 1) := by decide +kernel
theorem dX8_water_10 : decode cX8_water 10 = .ok (.aload_n 0, 1) := by decide +kernel
theorem dX8_water_11 : decode cX8_water 11 = .ok (.iload_n 1, 1) := by decide +kernel
theorem dX8_water_12 : decode cX8_water 12 = .ok (.aload_n 0, 1) := by decide +kernel
theorem dX8_water_13 : decode cX8_water 13 = .ok (.getfield 37, 3) := by decide +kernel
theorem dX8_water_16 : decode cX8_water 16 = .ok (.iload_n 1, 1) := by decide +kernel
theorem dX8_water_17 : decode cX8_water 17 = .ok (.baload, 1) := by decide +kernel
theorem dX8_water_18 : decode cX8_water 18 = .ok (.invokevirtual 132, 3) := by decide +kernel
theorem dX8_water_21 : decode cX8_water 21 = .ok (.invokestatic 121, 3) := by decide +kernel
theorem dX8_water_24 : decode cX8_water 24 = .ok (.ifCond .ne 5, 3) := by decide +kernel
theorem dX8_water_27 : decode cX8_water 27 = .ok (.iconst 0, 1) := by decide +kernel
theorem dX8_water_28 : decode cX8_water 28 = .ok (.ireturn, 1) := by decide +kernel
theorem dX8_water_29 : decode cX8_water 29 = .ok (.aload_n 0, 1) := by decide +kernel
theorem dX8_water_30 : decode cX8_water 30 = .ok (.dup, 1) := by decide +kernel
theorem dX8_water_31 : decode cX8_water 31 = .ok (.getfield 136, 3) := by decide +kernel
theorem dX8_water_34 : decode cX8_water 34 = .ok (.iload_n 2, 1) := by decide +kernel
theorem dX8_water_35 : decode cX8_water 35 = .ok (.aload_n 0, 1) := by decide +kernel
theorem dX8_water_36 : decode cX8_water 36 = .ok (.getfield 19, 3) := by decide +kernel
theorem dX8_water_39 : decode cX8_water 39 = .ok (.iload_n 1, 1) := by decide +kernel
theorem dX8_water_40 : decode cX8_water 40 = .ok (.iaload, 1) := by decide +kernel
theorem dX8_water_41 : decode cX8_water 41 = .ok (.isub, 1) := by decide +kernel
theorem dX8_water_42 : decode cX8_water 42 = .ok (.iadd, 1) := by decide +kernel
theorem dX8_water_43 : decode cX8_water 43 = .ok (.putfield 136, 3) := by decide +kernel
theorem dX8_water_46 : decode cX8_water 46 = .ok (.aload_n 0, 1) := by decide +kernel
theorem dX8_water_47 : decode cX8_water 47 = .ok (.getfield 19, 3) := by decide +kernel
theorem dX8_water_50 : decode cX8_water 50 = .ok (.iload_n 1, 1) := by decide +kernel
theorem dX8_water_51 : decode cX8_water 51 = .ok (.iload_n 2, 1) := by decide +kernel
theorem dX8_water_52 : decode cX8_water 52 = .ok (.iastore, 1) := by decide +kernel
theorem dX8_water_53 : decode cX8_water 53 = .ok (.iconst 1, 1) := by decide +kernel
theorem dX8_water_54 : decode cX8_water 54 = .ok (.ireturn, 1) := by decide +kernel
set_option maxRecDepth 20000 in
theorem ggX8_field_X8_isTank : GoodIn wsX8_field wsX8_isTank := goodIn_r _ [11, 12, 13, 14, 10, 15, 16, 17, 18, 19, 20, 21, 22, 23, 24, 25, 26, 27, 28, 29, 30, 31, 32, 33, 34, 35, 36, 37, 38, 39, 40, 41, 42, 43, 44, 45, 46, 47, 48, 49, 50, 51, 52, 53, 54, 55, 56, 57, 58, 59, 60, 61, 62] (by decide +kernel) (by decide +kernel)
set_option maxRecDepth 20000 in
theorem gX8_field_X8_isTank : GoodIn wsX8_field (wsV RX8 125 RX8 yX8_isTank wsX8_isTank) := goodIn_app (goodIn_of _ (by decide +kernel)) ggX8_field_X8_isTank
set_option maxRecDepth 20000 in
theorem ggX8_field_X8_isIn : GoodIn wsX8_field wsX8_isIn := goodIn_r _ [15] (by decide +kernel) (by decide +kernel)
set_option maxRecDepth 20000 in
theorem gX8_field_X8_isIn : GoodIn wsX8_field (va_wsS RX8 121 yX8_isIn wsX8_isIn) := goodIn_app (goodIn_of _ (by decide +kernel)) ggX8_field_X8_isIn
theorem dX8_field_0 : decode cX8_field 0 = .ok (.aload_n 0, 1) := by decide +kernel
theorem dX8_field_1 : decode cX8_field 1 = .ok (.iload_n 1, 1) := by decide +kernel
theorem dX8_field_2 : decode cX8_field 2 = .ok (.invokevirtual 125, 3) := by decide +kernel
theorem dX8_field_5 : decode cX8_field 5 = .ok (.ifCond .eq 43, 3) := by decide +kernel
theorem dX8_field_8 : decode cX8_field 8 = .ok (.iload_n 2, 1) := by decide +kernel
theorem dX8_field_9 : decode cX8_field 9 = .ok (.iconst 0, 1) := by decide +kernel
theorem dX8_field_10 : decode cX8_field 10 = .ok (.bipush 9, 2) := by decide +kernel
theorem dX8_field_12 : decode cX8_field 12 = .ok (.invokestatic 121, 3) := by decide +kernel
theorem dX8_field_15 : decode cX8_field 15 = .ok (.ifCond .eq 33, 3) := by decide +kernel
theorem dX8_field_18 : decode cX8_field 18 = .ok (.iload_n 3, 1) := by decide +kernel
theorem dX8_field_19 : decode cX8_field 19 = .ok (.iconst 1, 1) := by decide +kernel
theorem dX8_field_20 : decode cX8_field 20 = .ok (.bipush 20, 2) := by decide +kernel
theorem dX8_field_22 : decode cX8_field 22 = .ok (.invokestatic 121, 3) := by decide +kernel
theorem dX8_field_25 : decode cX8_field 25 = .ok (.ifCond .eq 23, 3) := by decide +kernel
theorem dX8_field_28 : decode cX8_field 28 = .ok (.iload 4, 2) := by decide +kernel
theorem dX8_field_30 : decode cX8_field 30 = .ok (.iconst 0, 1) := by decide +kernel
theorem dX8_field_31 : decode cX8_field 31 = .ok (.bipush 9, 2) := by decide +kernel
theorem dX8_field_33 : decode cX8_field 33 = .ok (.invokestatic 121, 3) := by decide +kernel
theorem dX8_field_36 : decode cX8_field 36 = .ok (.ifCond .eq 12, 3) := by decide +kernel
theorem dX8_field_39 : decode cX8_field 39 = .ok (.aload_n 0, 1) := by decide +kernel
theorem dX8_field_40 : decode cX8_field 40 = .ok (.getfield 139, 3) := by decide +kernel
theorem dX8_field_43 : decode cX8_field 43 = .ok (.bipush 40, 2) := by decide +kernel
theorem dX8_field_45 : decode cX8_field 45 = .ok (.if_icmp .ne 5, 3) := by decide +kernel
theorem dX8_field_48 : decode cX8_field 48 = .ok (.iconst (-1), 1) := by decide +kernel
theorem dX8_field_49 : decode cX8_field 49 = .ok (.ireturn, 1) := by decide +kernel
theorem dX8_field_50 : decode cX8_field 50 = .ok (.aload_n 0, 1) := by decide +kernel
theorem dX8_field_51 : decode cX8_field 51 = .ok (.getfield 41, 3) := by decide +kernel
theorem dX8_field_54 : decode cX8_field 54 = .ok (.aload_n 0, 1) := by decide +kernel
theorem dX8_field_55 : decode cX8_field 55 = .ok (.getfield 139, 3) := by decide +kernel
theorem dX8_field_58 : decode cX8_field 58 = .ok (.iload_n 1, 1) := by decide +kernel
theorem dX8_field_59 : decode cX8_field 59 = .ok (.iastore, 1) := by decide +kernel
theorem dX8_field_60 : decode cX8_field 60 = .ok (.aload_n 0, 1) := by decide +kernel
theorem dX8_field_61 : decode cX8_field 61 = .ok (.getfield 44, 3) := by decide +kernel
theorem dX8_field_64 : decode cX8_field 64 = .ok (.aload_n 0, 1) := by decide +kernel
theorem dX8_field_65 : decode cX8_field 65 = .ok (.getfield 139, 3) := by decide +kernel
theorem dX8_field_68 : decode cX8_field 68 = .ok (.iload_n 2, 1) := by decide +kernel
theorem dX8_field_69 : decode cX8_field 69 = .ok (.iastore, 1) := by decide +kernel
theorem dX8_field_70 : decode cX8_field 70 = .ok (.aload_n 0, 1) := by decide +kernel
theorem dX8_field_71 : decode cX8_field 71 = .ok (.getfield 47, 3) := by decide +kernel
theorem dX8_field_74 : decode cX8_field 74 = .ok (.aload_n 0, 1) := by decide +kernel
theorem dX8_field_75 : decode cX8_field 75 = .ok (.getfield 139, 3) := by decide +kernel
theorem dX8_field_78 : decode cX8_field 78 = .ok (.iload_n 3, 1) := by decide +kernel
theorem dX8_field_79 : decode cX8_field 79 = .ok (.iastore, 1) := by decide +kernel
theorem dX8_field_80 : decode cX8_field 80 = .ok (.aload_n 0, 1) := by decide +kernel
theorem dX8_field_81 : decode cX8_field 81 = .ok (.getfield 50, 3) := by decide +kernel
theorem dX8_field_84 : decode cX8_field 84 = .ok (.aload_n 0, 1) := by decide +kernel
theorem dX8_field_85 : decode cX8_field 85 = .ok (.getfield 139, 3) := by decide +kernel
theorem dX8_field_88 : decode cX8_field 88 = .ok (.iload 4, 2) := by decide +kernel
theorem dX8_field_90 : decode cX8_field 90 = .ok (.iastore, 1) := by decide +kernel
theorem dX8_field_91 : decode cX8_field 91 = .ok (.aload_n 0, 1) := by decide +kernel
theorem dX8_field_92 : decode cX8_field 92 = .ok (.getfield 62, 3) := by decide +kernel
theorem dX8_field_95 : decode cX8_field 95 = .ok (.aload_n 0, 1) := by decide +kernel
theorem dX8_field_96 : decode cX8_field 96 = .ok (.getfield 139, 3) := by decide +kernel
theorem dX8_field_99 : decode cX8_field 99 = .ok (.iload 5, 2) := by decide +kernel
theorem dX8_field_101 : decode cX8_field 101 = .ok (.bastore, 1) := by decide +kernel
theorem dX8_field_102 : decode cX8_field 102 = .ok (.aload_n 0, 1) := by decide +kernel
theorem dX8_field_103 : decode cX8_field 103 = .ok (.dup, 1) := by decide +kernel
theorem dX8_field_104 : decode cX8_field 104 = .ok (.getfield 139, 3) := by decide +kernel
theorem dX8_field_107 : decode cX8_field 107 = .ok (.iconst 1, 1) := by decide +kernel
theorem dX8_field_108 : decode cX8_field 108 = .ok (.iadd, 1) := by decide +kernel
theorem dX8_field_109 : decode cX8_field 109 = .ok (.putfield 139, 3) := by decide +kernel
theorem dX8_field_112 : decode cX8_field 112 = .ok (.aload_n 0, 1) := by decide +kernel
theorem dX8_field_113 : decode cX8_field 113 = .ok (.getfield 139, 3) := by decide +kernel
theorem dX8_field_116 : decode cX8_field 116 = .ok (.iconst 1, 1) := by decide +kernel
theorem dX8_field_117 : decode cX8_field 117 = .ok (.isub, 1) := by decide +kernel
theorem dX8_field_118 : decode cX8_field 118 = .ok (.ireturn, 1) := by decide +kernel
set_option maxRecDepth 20000 in
theorem ggX8_open_X8_isTank : GoodIn wsX8_open wsX8_isTank := goodIn_r _ [6, 7, 8, 9, 5, 10, 11, 12, 13, 14, 15, 16, 17, 18, 19, 20, 21, 22, 23, 24, 25, 26, 27, 28, 29, 30, 31, 32, 33, 34, 35, 36, 37, 38, 39, 40, 41, 42, 43, 44, 45, 46, 47, 48, 49, 50, 51, 52, 53, 54, 55, 56, 57] (by decide +kernel) (by decide +kernel)
set_option maxRecDepth 20000 in
theorem gX8_open_X8_isTank : GoodIn wsX8_open (wsV RX8 125 RX8 yX8_isTank wsX8_isTank) := goodIn_app (goodIn_of _ (by decide +kernel)) ggX8_open_X8_isTank
set_option maxRecDepth 20000 in
theorem ggX8_open_X8_isIn : GoodIn wsX8_open wsX8_isIn := goodIn_r _ [10] (by decide +kernel) (by decide +kernel)
set_option maxRecDepth 20000 in
theorem gX8_open_X8_isIn : GoodIn wsX8_open (va_wsS RX8 121 yX8_isIn wsX8_isIn) := goodIn_app (goodIn_of _ (by decide +kernel)) ggX8_open_X8_isIn
theorem dX8_open_0 : decode cX8_open 0 = .ok (.aload_n 0, 1) := by decide +kernel
theorem dX8_open_1 : decode cX8_open 1 = .ok (.iload_n 1, 1) := by decide +kernel
theorem dX8_open_2 : decode cX8_open 2 = .ok (.invokevirtual 125, 3) := by decide +kernel
theorem dX8_open_5 : decode cX8_open 5 = .ok (.ifCond .eq 13, 3) := by decide +kernel
theorem dX8_open_8 : decode cX8_open 8 = .ok (.iload_n 2, 1) := by decide +kernel
theorem dX8_open_9 : decode cX8_open 9 = .ok (.iconst 0, 1) := by decide +kernel
theorem dX8_open_10 : decode cX8_open 10 = .ok (.bipush 20, 2) := by decide +kernel
theorem dX8_open_12 : decode cX8_open 12 = .ok (.invokestatic 121, 3) := by decide +kernel
theorem dX8_open_15 : decode cX8_open 15 = .ok (.ifCond .ne 5, 3) := by decide +kernel
theorem dX8_open_18 : decode cX8_open 18 = .ok (.iconst 0, 1) := by decide +kernel
theorem dX8_open_19 : decode cX8_open 19 = .ok (.ireturn, 1) := by decide +kernel
theorem dX8_open_20 : decode cX8_open 20 = .ok (.aload_n 0, 1) := by decide +kernel
theorem dX8_open_21 : decode cX8_open 21 = .ok (.getfield 22, 3) := by decide +kernel
theorem dX8_open_24 : decode cX8_open 24 = .ok (.iload_n 1, 1) := by decide +kernel
theorem dX8_open_25 : decode cX8_open 25 = .ok (.iload_n 2, 1) := by decide +kernel
theorem dX8_open_26 : decode cX8_open 26 = .ok (.iastore, 1) := by decide +kernel
theorem dX8_open_27 : decode cX8_open 27 = .ok (.iconst 1, 1) := by decide +kernel
theorem dX8_open_28 : decode cX8_open 28 = .ok (.ireturn, 1) := by decide +kernel
set_option maxRecDepth 20000 in
theorem ggX8_mend_X8_isTank : GoodIn wsX8_mend wsX8_isTank := goodIn_r _ [7, 8, 9, 10, 6, 11, 12, 13, 14, 15, 16, 17, 18, 19, 20, 21, 22, 23, 24, 25, 26, 27, 28, 29, 30, 31, 32, 33, 34, 35, 36, 37, 38, 39, 40, 41, 42, 43, 44, 45, 46, 47, 48, 49, 50, 51, 52, 53, 54, 55, 56, 57, 58] (by decide +kernel) (by decide +kernel)
set_option maxRecDepth 20000 in
theorem gX8_mend_X8_isTank : GoodIn wsX8_mend (wsV RX8 125 RX8 yX8_isTank wsX8_isTank) := goodIn_app (goodIn_of _ (by decide +kernel)) ggX8_mend_X8_isTank
set_option maxRecDepth 20000 in
theorem ggX8_mend_X8_isIn : GoodIn wsX8_mend wsX8_isIn := goodIn_r _ [11] (by decide +kernel) (by decide +kernel)
set_option maxRecDepth 20000 in
theorem gX8_mend_X8_isIn : GoodIn wsX8_mend (va_wsS RX8 121 yX8_isIn wsX8_isIn) := goodIn_app (goodIn_of _ (by decide +kernel)) ggX8_mend_X8_isIn
theorem dX8_mend_0 : decode cX8_mend 0 = .ok (.aload_n 0, 1) := by decide +kernel
theorem dX8_mend_1 : decode cX8_mend 1 = .ok (.iload_n 1, 1) := by decide +kernel
theorem dX8_mend_2 : decode cX8_mend 2 = .ok (.invokevirtual 125, 3) := by decide +kernel
theorem dX8_mend_5 : decode cX8_mend 5 = .ok (.ifCond .eq 14, 3) := by decide +kernel
theorem dX8_mend_8 : decode cX8_mend 8 = .ok (.iload_n 2, 1) := by decide +kernel
theorem dX8_mend_9 : decode cX8_mend 9 = .ok (.iconst 0, 1) := by decide +kernel
theorem dX8_mend_10 : decode cX8_mend 10 = .ok (.sipush 500, 3) := by decide +kernel
theorem dX8_mend_13 : decode cX8_mend 13 = .ok (.invokestatic 121, 3) := by decide +kernel
theorem dX8_mend_16 : decode cX8_mend 16 = .ok (.ifCond .ne 5, 3) := by decide +kernel
theorem dX8_mend_19 : decode cX8_mend 19 = .ok (.iconst 0, 1) := by decide +kernel
theorem dX8_mend_20 : decode cX8_mend 20 = .ok (.ireturn, 1) := by decide +kernel
theorem dX8_mend_21 : decode cX8_mend 21 = .ok (.aload_n 0, 1) := by decide +kernel
theorem dX8_mend_22 : decode cX8_mend 22 = .ok (.getfield 16, 3) := by decide +kernel
theorem dX8_mend_25 : decode cX8_mend 25 = .ok (.iload_n 1, 1) := by decide +kernel
theorem dX8_mend_26 : decode cX8_mend 26 = .ok (.iload_n 2, 1) := by decide +kernel
theorem dX8_mend_27 : decode cX8_mend 27 = .ok (.iastore, 1) := by decide +kernel
theorem dX8_mend_28 : decode cX8_mend 28 = .ok (.aload_n 0, 1) := by decide +kernel
theorem dX8_mend_29 : decode cX8_mend 29 = .ok (.getfield 37, 3) := by decide +kernel
theorem dX8_mend_32 : decode cX8_mend 32 = .ok (.iload_n 1, 1) := by decide +kernel
theorem dX8_mend_33 : decode cX8_mend 33 = .ok (.iconst 0, 1) := by decide +kernel
theorem dX8_mend_34 : decode cX8_mend 34 = .ok (.bastore, 1) := by decide +kernel
theorem dX8_mend_35 : decode cX8_mend 35 = .ok (.iconst 1, 1) := by decide +kernel
theorem dX8_mend_36 : decode cX8_mend 36 = .ok (.ireturn, 1) := by decide +kernel
set_option maxRecDepth 20000 in
theorem ggX8_dredge_X8_isTank : GoodIn wsX8_dredge wsX8_isTank := goodIn_r _ [6, 7, 8, 9, 5, 10, 11, 12, 13, 14, 15, 16, 17, 18, 19, 20, 21, 22, 23, 24, 25, 26, 27, 28, 29, 30, 31, 32, 33, 34, 35, 36, 37, 38, 39, 40, 41, 42, 43, 44, 45, 46, 47, 48, 49, 50, 51, 52, 53, 54, 55, 56, 57] (by decide +kernel) (by decide +kernel)
set_option maxRecDepth 20000 in
theorem gX8_dredge_X8_isTank : GoodIn wsX8_dredge (wsV RX8 125 RX8 yX8_isTank wsX8_isTank) := goodIn_app (goodIn_of _ (by decide +kernel)) ggX8_dredge_X8_isTank
set_option maxRecDepth 20000 in
theorem ggX8_dredge_X8_isIn : GoodIn wsX8_dredge wsX8_isIn := goodIn_r _ [10] (by decide +kernel) (by decide +kernel)
set_option maxRecDepth 20000 in
theorem gX8_dredge_X8_isIn : GoodIn wsX8_dredge (va_wsS RX8 121 yX8_isIn wsX8_isIn) := goodIn_app (goodIn_of _ (by decide +kernel)) ggX8_dredge_X8_isIn
theorem dX8_dredge_0 : decode cX8_dredge 0 = .ok (.aload_n 0, 1) := by decide +kernel
theorem dX8_dredge_1 : decode cX8_dredge 1 = .ok (.iload_n 1, 1) := by decide +kernel
theorem dX8_dredge_2 : decode cX8_dredge 2 = .ok (.invokevirtual 125, 3) := by decide +kernel
theorem dX8_dredge_5 : decode cX8_dredge 5 = .ok (.ifCond .eq 17, 3) := by decide +kernel
theorem dX8_dredge_8 : decode cX8_dredge 8 = .ok (.iload_n 2, 1) := by decide +kernel
theorem dX8_dredge_9 : decode cX8_dredge 9 = .ok (.iconst 1, 1) := by decide +kernel
theorem dX8_dredge_10 : decode cX8_dredge 10 = .ok (.aload_n 0, 1) := by decide +kernel
theorem dX8_dredge_11 : decode cX8_dredge 11 = .ok (.getfield 25, 3) := by decide +kernel
theorem dX8_dredge_14 : decode cX8_dredge 14 = .ok (.iload_n 1, 1) := by decide +kernel
theorem dX8_dredge_15 : decode cX8_dredge 15 = .ok (.iaload, 1) := by decide +kernel
theorem dX8_dredge_16 : decode cX8_dredge 16 = .ok (.invokestatic 121, 3) := by decide +kernel
theorem dX8_dredge_19 : decode cX8_dredge 19 = .ok (.ifCond .ne 5, 3) := by decide +kernel
theorem dX8_dredge_22 : decode cX8_dredge 22 = .ok (.iconst (-1), 1) := by decide +kernel
theorem dX8_dredge_23 : decode cX8_dredge 23 = .ok (.ireturn, 1) := by decide +kernel
theorem dX8_dredge_24 : decode cX8_dredge 24 = .ok (.aload_n 0, 1) := by decide +kernel
theorem dX8_dredge_25 : decode cX8_dredge 25 = .ok (.getfield 25, 3) := by decide +kernel
theorem dX8_dredge_28 : decode cX8_dredge 28 = .ok (.iload_n 1, 1) := by decide +kernel
theorem dX8_dredge_29 : decode cX8_dredge 29 = .ok (.dup2, 1) := by decide +kernel
theorem dX8_dredge_30 : decode cX8_dredge 30 = .ok (.iaload, 1) := by decide +kernel
theorem dX8_dredge_31 : decode cX8_dredge 31 = .ok (.iload_n 2, 1) := by decide +kernel
theorem dX8_dredge_32 : decode cX8_dredge 32 = .ok (.isub, 1) := by decide +kernel
theorem dX8_dredge_33 : decode cX8_dredge 33 = .ok (.iastore, 1) := by decide +kernel
theorem dX8_dredge_34 : decode cX8_dredge 34 = .ok (.aload_n 0, 1) := by decide +kernel
theorem dX8_dredge_35 : decode cX8_dredge 35 = .ok (.getfield 25, 3) := by decide +kernel
theorem dX8_dredge_38 : decode cX8_dredge 38 = .ok (.iload_n 1, 1) := by decide +kernel
theorem dX8_dredge_39 : decode cX8_dredge 39 = .ok (.iaload, 1) := by decide +kernel
theorem dX8_dredge_40 : decode cX8_dredge 40 = .ok (.ireturn, 1) := by decide +kernel
theorem dX8_custom_0 : decode cX8_custom 0 = .ok (.aload_n 0, 1) := by decide +kernel
theorem dX8_custom_1 : decode cX8_custom 1 = .ok (.getfield 142, 3) := by decide +kernel
theorem dX8_custom_4 : decode cX8_custom 4 = .ok (.ifCond .eq 12, 3) := by decide +kernel
theorem dX8_custom_7 : decode cX8_custom 7 = .ok (.aload_n 0, 1) := by decide +kernel
theorem dX8_custom_8 : decode cX8_custom 8 = .ok (.getfield 88, 3) := by decide +kernel
theorem dX8_custom_11 : decode cX8_custom 11 = .ok (.iload_n 1, 1) := by decide +kernel
theorem dX8_custom_12 : decode cX8_custom 12 = .ok (.iaload, 1) := by decide +kernel
theorem dX8_custom_13 : decode cX8_custom 13 = .ok (.goto 4, 3) := by decide +kernel
theorem dX8_custom_16 : decode cX8_custom 16 = .ok (.iload_n 2, 1) := by decide +kernel
theorem dX8_custom_17 : decode cX8_custom 17 = .ok (.ireturn, 1) := by decide +kernel
set_option maxRecDepth 20000 in
theorem ggX8_feed_X8_four : GoodIn wsX8_feed wsX8_four := goodIn_r _ [6, 7, 1, 8, 9, 10, 11, 12, 13, 14, 15, 16, 17, 18, 19, 20, 21, 22, 23, 24, 25, 26, 27, 28, 29, 30, 31, 32, 33, 34, 35, 36, 37, 38, 39, 40, 41, 42, 43, 44, 45, 46, 47, 48, 49, 50, 51, 52, 53, 54] (by decide +kernel) (by decide +kernel)
set_option maxRecDepth 20000 in
theorem gX8_feed_X8_four : GoodIn wsX8_feed (wsV RX8 149 RX8 yX8_four wsX8_four) := goodIn_app (goodIn_of _ (by decide +kernel)) ggX8_feed_X8_four
theorem dX8_feed_0 : decode cX8_feed 0 = .ok (.aload_n 0, 1) := by decide +kernel
theorem dX8_feed_1 : decode cX8_feed 1 = .ok (.getfield 146, 3) := by decide +kernel
theorem dX8_feed_4 : decode cX8_feed 4 = .ok (.bipush 20, 2) := by decide +kernel
theorem dX8_feed_6 : decode cX8_feed 6 = .ok (.iadd, 1) := by decide +kernel
theorem dX8_feed_7 : decode cX8_feed 7 = .ok (.sipush 300, 3) := by decide +kernel
theorem dX8_feed_10 : decode cX8_feed 10 = .ok (.if_icmp .le 5, 3) := by decide +kernel
theorem dX8_feed_13 : decode cX8_feed 13 = .ok (.iconst (-1), 1) := by decide +kernel
theorem dX8_feed_14 : decode cX8_feed 14 = .ok (.ireturn, 1) := by decide +kernel
theorem dX8_feed_15 : decode cX8_feed 15 = .ok (.aload_n 0, 1) := by decide +kernel
theorem dX8_feed_16 : decode cX8_feed 16 = .ok (.iload_n 1, 1) := by decide +kernel
theorem dX8_feed_17 : decode cX8_feed 17 = .ok (.invokevirtual 149, 3) := by decide +kernel
theorem dX8_feed_20 : decode cX8_feed 20 = .ok (.aload_n 0, 1) := by decide +kernel
theorem dX8_feed_21 : decode cX8_feed 21 = .ok (.iload_n 2, 1) := by decide +kernel
theorem dX8_feed_22 : decode cX8_feed 22 = .ok (.invokevirtual 149, 3) := by decide +kernel
theorem dX8_feed_25 : decode cX8_feed 25 = .ok (.aload_n 0, 1) := by decide +kernel
theorem dX8_feed_26 : decode cX8_feed 26 = .ok (.iload_n 3, 1) := by decide +kernel
theorem dX8_feed_27 : decode cX8_feed 27 = .ok (.invokevirtual 149, 3) := by decide +kernel
theorem dX8_feed_30 : decode cX8_feed 30 = .ok (.aload_n 0, 1) := by decide +kernel
theorem dX8_feed_31 : decode cX8_feed 31 = .ok (.iload 4, 2) := by decide +kernel
theorem dX8_feed_33 : decode cX8_feed 33 = .ok (.invokevirtual 149, 3) := by decide +kernel
theorem dX8_feed_36 : decode cX8_feed 36 = .ok (.aload_n 0, 1) := by decide +kernel
theorem dX8_feed_37 : decode cX8_feed 37 = .ok (.iload 5, 2) := by decide +kernel
theorem dX8_feed_39 : decode cX8_feed 39 = .ok (.invokevirtual 149, 3) := by decide +kernel
theorem dX8_feed_42 : decode cX8_feed 42 = .ok (.aload_n 0, 1) := by decide +kernel
theorem dX8_feed_43 : decode cX8_feed 43 = .ok (.getfield 146, 3) := by decide +kernel
theorem dX8_feed_46 : decode cX8_feed 46 = .ok (.ireturn, 1) := by decide +kernel
theorem dX8_four_0 : decode cX8_four 0 = .ok (.bipush 24, 2) := by decide +kernel
theorem dX8_four_2 : decode cX8_four 2 = .ok (.istore_n 2, 1) := by decide +kernel
theorem dX8_four_3 : decode cX8_four 3 = .ok (.iload_n 2, 1) := by decide +kernel
theorem dX8_four_4 : decode cX8_four 4 = .ok (.ifCond .lt 32, 3) := by decide +kernel
theorem dX8_four_7 : decode cX8_four 7 = .ok (.aload_n 0, 1) := by decide +kernel
theorem dX8_four_8 : decode cX8_four 8 = .ok (.getfield 78, 3) := by decide +kernel
theorem dX8_four_11 : decode cX8_four 11 = .ok (.aload_n 0, 1) := by decide +kernel
theorem dX8_four_12 : decode cX8_four 12 = .ok (.getfield 146, 3) := by decide +kernel
theorem dX8_four_15 : decode cX8_four 15 = .ok (.iload_n 1, 1) := by decide +kernel
theorem dX8_four_16 : decode cX8_four 16 = .ok (.iload_n 2, 1) := by decide +kernel
theorem dX8_four_17 : decode cX8_four 17 = .ok (.ishr, 1) := by decide +kernel
theorem dX8_four_18 : decode cX8_four 18 = .ok (.i2b, 1) := by decide +kernel
theorem dX8_four_19 : decode cX8_four 19 = .ok (.bastore, 1) := by decide +kernel
theorem dX8_four_20 : decode cX8_four 20 = .ok (.aload_n 0, 1) := by decide +kernel
theorem dX8_four_21 : decode cX8_four 21 = .ok (.dup, 1) := by decide +kernel
theorem dX8_four_22 : decode cX8_four 22 = .ok (.getfield 146, 3) := by decide +kernel
theorem dX8_four_25 : decode cX8_four 25 = .ok (.iconst 1, 1) := by decide +kernel
theorem dX8_four_26 : decode cX8_four 26 = .ok (.iadd, 1) := by decide +kernel
theorem dX8_four_27 : decode cX8_four 27 = .ok (.putfield 146, 3) := by decide +kernel
theorem dX8_four_30 : decode cX8_four 30 = .ok (.iinc 2 (-8), 3) := by decide +kernel
theorem dX8_four_33 : decode cX8_four 33 = .ok (.goto (-30), 3) := by decide +kernel
theorem dX8_four_36 : decode cX8_four 36 = .ok (.return_, 1) := by decide +kernel
theorem dX8_blanks_0 : decode cX8_blanks 0 = .ok (.aload_n 0, 1) := by decide +kernel
theorem dX8_blanks_1 : decode cX8_blanks 1 = .ok (.getfield 153, 3) := by decide +kernel
theorem dX8_blanks_4 : decode cX8_blanks 4 = .ok (.aload_n 0, 1) := by decide +kernel
theorem dX8_blanks_5 : decode cX8_blanks 5 = .ok (.getfield 156, 3) := by decide +kernel
theorem dX8_blanks_8 : decode cX8_blanks 8 = .ok (.if_icmp .ge 44, 3) := by decide +kernel
theorem dX8_blanks_11 : decode cX8_blanks 11 = .ok (.aload_n 0, 1) := by decide +kernel
theorem dX8_blanks_12 : decode cX8_blanks 12 = .ok (.getfield 82, 3) := by decide +kernel
theorem dX8_blanks_15 : decode cX8_blanks 15 = .ok (.aload_n 0, 1) := by decide +kernel
theorem dX8_blanks_16 : decode cX8_blanks 16 = .ok (.getfield 153, 3) := by decide +kernel
theorem dX8_blanks_19 : decode cX8_blanks 19 = .ok (.baload, 1) := by decide +kernel
theorem dX8_blanks_20 : decode cX8_blanks 20 = .ok (.bipush 32, 2) := by decide +kernel
theorem dX8_blanks_22 : decode cX8_blanks 22 = .ok (.if_icmp .eq 17, 3) := by decide +kernel
theorem dX8_blanks_25 : decode cX8_blanks 25 = .ok (.aload_n 0, 1) := by decide +kernel
theorem dX8_blanks_26 : decode cX8_blanks 26 = .ok (.getfield 82, 3) := by decide +kernel
theorem dX8_blanks_29 : decode cX8_blanks 29 = .ok (.aload_n 0, 1) := by decide +kernel
theorem dX8_blanks_30 : decode cX8_blanks 30 = .ok (.getfield 153, 3) := by decide +kernel
theorem dX8_blanks_33 : decode cX8_blanks 33 = .ok (.baload, 1) := by decide +kernel
theorem dX8_blanks_34 : decode cX8_blanks 34 = .ok (.bipush 10, 2) := by decide +kernel
theorem dX8_blanks_36 : decode cX8_blanks 36 = .ok (.if_icmp .ne 16, 3) := by decide +kernel
theorem dX8_blanks_39 : decode cX8_blanks 39 = .ok (.aload_n 0, 1) := by decide +kernel
theorem dX8_blanks_40 : decode cX8_blanks 40 = .ok (.dup, 1) := by decide +kernel
theorem dX8_blanks_41 : decode cX8_blanks 41 = .ok (.getfield 153, 3) := by decide +kernel
theorem dX8_blanks_44 : decode cX8_blanks 44 = .ok (.iconst 1, 1) := by decide +kernel
theorem dX8_blanks_45 : decode cX8_blanks 45 = .ok (.iadd, 1) := by decide +kernel
theorem dX8_blanks_46 : decode cX8_blanks 46 = .ok (.putfield 153, 3) := by decide +kernel
theorem dX8_blanks_49 : decode cX8_blanks 49 = .ok (.goto (-49), 3) := by decide +kernel
theorem dX8_blanks_52 : decode cX8_blanks 52 = .ok (.return_, 1) := by decide +kernel
set_option maxRecDepth 20000 in
theorem ggX8_word_X8_blanks : GoodIn wsX8_word wsX8_blanks := goodIn_r _ [9, 1, 3, 4, 10, 11, 12, 13, 14, 15, 16, 17, 18, 19, 20, 21, 22, 23, 24, 25, 26, 27, 28, 29, 30, 31, 32, 33, 34, 35, 36, 37, 38, 39, 40, 41, 42, 43, 44, 45, 46, 47, 48, 49, 50, 51, 52, 53, 54, 55, 56] (by decide +kernel) (by decide +kernel)
set_option maxRecDepth 20000 in
theorem gX8_word_X8_blanks : GoodIn wsX8_word (wsV RX8 159 RX8 yX8_blanks wsX8_blanks) := goodIn_app (goodIn_of _ (by decide +kernel)) ggX8_word_X8_blanks
theorem dX8_word_0 : decode cX8_word 0 = .ok (.aload_n 0, 1) := by decide +kernel
theorem dX8_word_1 : decode cX8_word 1 = .ok (.invokevirtual 159, 3) := by decide +kernel
theorem dX8_word_4 : decode cX8_word 4 = .ok (.aload_n 0, 1) := by decide +kernel
theorem dX8_word_5 : decode cX8_word 5 = .ok (.aload_n 0, 1) := by decide +kernel
theorem dX8_word_6 : decode cX8_word 6 = .ok (.getfield 153, 3) := by decide +kernel
theorem dX8_word_9 : decode cX8_word 9 = .ok (.putfield 162, 3) := by decide +kernel
theorem dX8_word_12 : decode cX8_word 12 = .ok (.lconst 0, 1) := by decide +kernel
theorem dX8_word_13 : decode cX8_word 13 = .ok (.lstore_n 1, 1) := by decide +kernel
theorem dX8_word_14 : decode cX8_word 14 = .ok (.aload_n 0, 1) := by decide +kernel
theorem dX8_word_15 : decode cX8_word 15 = .ok (.getfield 162, 3) := by decide +kernel
theorem dX8_word_18 : decode cX8_word 18 = .ok (.aload_n 0, 1) := by decide +kernel
theorem dX8_word_19 : decode cX8_word 19 = .ok (.getfield 156, 3) := by decide +kernel
theorem dX8_word_22 : decode cX8_word 22 = .ok (.if_icmp .ge 78, 3) := by decide +kernel
theorem dX8_word_25 : decode cX8_word 25 = .ok (.aload_n 0, 1) := by decide +kernel
theorem dX8_word_26 : decode cX8_word 26 = .ok (.getfield 82, 3) := by decide +kernel
theorem dX8_word_29 : decode cX8_word 29 = .ok (.aload_n 0, 1) := by decide +kernel
theorem dX8_word_30 : decode cX8_word 30 = .ok (.getfield 162, 3) := by decide +kernel
theorem dX8_word_33 : decode cX8_word 33 = .ok (.baload, 1) := by decide +kernel
theorem dX8_word_34 : decode cX8_word 34 = .ok (.bipush 97, 2) := by decide +kernel
theorem dX8_word_36 : decode cX8_word 36 = .ok (.if_icmp .lt 64, 3) := by decide +kernel
theorem dX8_word_39 : decode cX8_word 39 = .ok (.aload_n 0, 1) := by decide +kernel
theorem dX8_word_40 : decode cX8_word 40 = .ok (.getfield 82, 3) := by decide +kernel
theorem dX8_word_43 : decode cX8_word 43 = .ok (.aload_n 0, 1) := by decide +kernel
theorem dX8_word_44 : decode cX8_word 44 = .ok (.getfield 162, 3) := by decide +kernel
theorem dX8_word_47 : decode cX8_word 47 = .ok (.baload, 1) := by decide +kernel
theorem dX8_word_48 : decode cX8_word 48 = .ok (.bipush 122, 2) := by decide +kernel
theorem dX8_word_50 : decode cX8_word 50 = .ok (.if_icmp .gt 50, 3) := by decide +kernel
theorem dX8_word_53 : decode cX8_word 53 = .ok (.aload_n 0, 1) := by decide +kernel
theorem dX8_word_54 : decode cX8_word 54 = .ok (.getfield 162, 3) := by decide +kernel
theorem dX8_word_57 : decode cX8_word 57 = .ok (.aload_n 0, 1) := by decide +kernel
theorem dX8_word_58 : decode cX8_word 58 = .ok (.getfield 153, 3) := by decide +kernel
theorem dX8_word_61 : decode cX8_word 61 = .ok (.isub, 1) := by decide +kernel
theorem dX8_word_62 : decode cX8_word 62 = .ok (.bipush 7, 2) := by decide +kernel
theorem dX8_word_64 : decode cX8_word 64 = .ok (.if_icmp .ge 21, 3) := by decide +kernel
theorem dX8_word_67 : decode cX8_word 67 = .ok (.lload_n 1, 1) := by decide +kernel
theorem dX8_word_68 : decode cX8_word 68 = .ok (.bipush 8, 2) := by decide +kernel
theorem dX8_word_70 : decode cX8_word 70 = .ok (.lshl, 1) := by decide +kernel
theorem dX8_word_71 : decode cX8_word 71 = .ok (.aload_n 0, 1) := by decide +kernel
theorem dX8_word_72 : decode cX8_word 72 = .ok (.getfield 82, 3) := by decide +kernel
theorem dX8_word_75 : decode cX8_word 75 = .ok (.aload_n 0, 1) := by decide +kernel
theorem dX8_word_76 : decode cX8_word 76 = .ok (.getfield 162, 3) := by decide +kernel
theorem dX8_word_79 : decode cX8_word 79 = .ok (.baload, 1) := by decide +kernel
theorem dX8_word_80 : decode cX8_word 80 = .ok (.i2l, 1) := by decide +kernel
theorem dX8_word_81 : decode cX8_word 81 = .ok (.lor, 1) := by decide +kernel
theorem dX8_word_82 : decode cX8_word 82 = .ok (.goto 4, 3) := by decide +kernel
theorem dX8_word_85 : decode cX8_word 85 = .ok (.lconst 0, 1) := by decide +kernel
theorem dX8_word_86 : decode cX8_word 86 = .ok (.lstore_n 1, 1) := by decide +kernel
theorem dX8_word_87 : decode cX8_word 87 = .ok (.aload_n 0, 1) := by decide +kernel
theorem dX8_word_88 : decode cX8_word 88 = .ok (.dup, 1) := by decide +kernel
theorem dX8_word_89 : decode cX8_word 89 = .ok (.getfield 162, 3) := by decide +kernel
theorem dX8_word_92 : decode cX8_word 92 = .ok (.iconst 1, 1) := by decide +kernel
theorem dX8_word_93 : decode cX8_word 93 = .ok (.iadd, 1) := by decide +kernel
theorem dX8_word_94 : decode cX8_word 94 = .ok (.putfield 162, 3) := by decide +kernel
theorem dX8_word_97 : decode cX8_word 97 = .ok (.goto (-83), 3) := by decide +kernel
theorem dX8_word_100 : decode cX8_word 100 = .ok (.aload_n 0, 1) := by decide +kernel
theorem dX8_word_101 : decode cX8_word 101 = .ok (.getfield 162, 3) := by decide +kernel
theorem dX8_word_104 : decode cX8_word 104 = .ok (.aload_n 0, 1) := by decide +kernel
theorem dX8_word_105 : decode cX8_word 105 = .ok (.getfield 153, 3) := by decide +kernel
theorem dX8_word_108 : decode cX8_word 108 = .ok (.isub, 1) := by decide +kernel
theorem dX8_word_109 : decode cX8_word 109 = .ok (.bipush 7, 2) := by decide +kernel
theorem dX8_word_111 : decode cX8_word 111 = .ok (.if_icmp .le 7, 3) := by decide +kernel
theorem dX8_word_114 : decode cX8_word 114 = .ok (.lconst 0, 1) := by decide +kernel
theorem dX8_word_115 : decode cX8_word 115 = .ok (.goto 4, 3) := by decide +kernel
theorem dX8_word_118 : decode cX8_word 118 = .ok (.lload_n 1, 1) := by decide +kernel
theorem dX8_word_119 : decode cX8_word 119 = .ok (.lreturn, 1) := by decide +kernel
set_option maxRecDepth 20000 in
theorem ggX8_takes_X8_word : GoodIn wsX8_takes wsX8_word := goodIn_r _ [7, 2, 1, 8, 9, 10, 11, 12, 6, 13, 14, 15, 16, 17, 18, 19, 20, 21, 22, 23, 24, 25, 26, 27, 28, 29, 30, 31, 32, 33, 34, 35, 36, 37, 38, 39, 40, 41, 42, 43, 44, 45, 46, 47, 48, 49, 50, 51, 52, 53, 54, 55, 56, 57, 58, 59, 60] (by decide +kernel) (by decide +kernel)
set_option maxRecDepth 20000 in
theorem gX8_takes_X8_word : GoodIn wsX8_takes (wsV RX8 165 RX8 yX8_word wsX8_word) := goodIn_app (goodIn_of _ (by decide +kernel)) ggX8_takes_X8_word
theorem dX8_takes_0 : decode cX8_takes 0 = .ok (.aload_n 0, 1) := by decide +kernel
theorem dX8_takes_1 : decode cX8_takes 1 = .ok (.invokevirtual 165, 3) := by decide +kernel
theorem dX8_takes_4 : decode cX8_takes 4 = .ok (.lload_n 1, 1) := by decide +kernel
theorem dX8_takes_5 : decode cX8_takes 5 = .ok (.lcmp, 1) := by decide +kernel
theorem dX8_takes_6 : decode cX8_takes 6 = .ok (.ifCond .eq 5, 3) := by decide +kernel
theorem dX8_takes_9 : decode cX8_takes 9 = .ok (.iconst 0, 1) := by decide +kernel
theorem dX8_takes_10 : decode cX8_takes 10 = .ok (.ireturn, 1) := by decide +kernel
theorem dX8_takes_11 : decode cX8_takes 11 = .ok (.aload_n 0, 1) := by decide +kernel
theorem dX8_takes_12 : decode cX8_takes 12 = .ok (.aload_n 0, 1) := by decide +kernel
theorem dX8_takes_13 : decode cX8_takes 13 = .ok (.getfield 162, 3) := by decide +kernel
theorem dX8_takes_16 : decode cX8_takes 16 = .ok (.putfield 153, 3) := by decide +kernel
theorem dX8_takes_19 : decode cX8_takes 19 = .ok (.iconst 1, 1) := by decide +kernel
theorem dX8_takes_20 : decode cX8_takes 20 = .ok (.ireturn, 1) := by decide +kernel
set_option maxRecDepth 20000 in
theorem ggX8_takesNumber_X8_blanks : GoodIn wsX8_takesNumber wsX8_blanks := goodIn_r _ [9, 1, 3, 4, 10, 11, 12, 13, 14, 15, 16, 17, 18, 19, 20, 21, 22, 23, 24, 25, 26, 27, 28, 29, 30, 31, 32, 33, 34, 35, 36, 37, 38, 39, 40, 41, 42, 43, 44, 45, 46, 47, 48, 49, 50, 51, 52, 53, 54, 55, 56] (by decide +kernel) (by decide +kernel)
set_option maxRecDepth 20000 in
theorem gX8_takesNumber_X8_blanks : GoodIn wsX8_takesNumber (wsV RX8 159 RX8 yX8_blanks wsX8_blanks) := goodIn_app (goodIn_of _ (by decide +kernel)) ggX8_takesNumber_X8_blanks
theorem dX8_takesNumber_0 : decode cX8_takesNumber 0 = .ok (.aload_n 0, 1) := by decide +kernel
theorem dX8_takesNumber_1 : decode cX8_takesNumber 1 = .ok (.invokevirtual 159, 3) := by decide +kernel
theorem dX8_takesNumber_4 : decode cX8_takesNumber 4 = .ok (.aload_n 0, 1) := by decide +kernel
theorem dX8_takesNumber_5 : decode cX8_takesNumber 5 = .ok (.getfield 153, 3) := by decide +kernel
theorem dX8_takesNumber_8 : decode cX8_takesNumber 8 = .ok (.istore_n 1, 1) := by decide +kernel
theorem dX8_takesNumber_9 : decode cX8_takesNumber 9 = .ok (.aload_n 0, 1) := by decide +kernel
theorem dX8_takesNumber_10 : decode cX8_takesNumber 10 = .ok (.iconst 0, 1) := by decide +kernel
theorem dX8_takesNumber_11 : decode cX8_takesNumber 11 = .ok (.putfield 169, 3) := by decide +kernel
theorem dX8_takesNumber_14 : decode cX8_takesNumber 14 = .ok (.iload_n 1, 1) := by decide +kernel
theorem dX8_takesNumber_15 : decode cX8_takesNumber 15 = .ok (.aload_n 0, 1) := by decide +kernel
theorem dX8_takesNumber_16 : decode cX8_takesNumber 16 = .ok (.getfield 156, 3) := by decide +kernel
theorem dX8_takesNumber_19 : decode cX8_takesNumber 19 = .ok (.if_icmp .ge 62, 3) := by decide +kernel
theorem dX8_takesNumber_22 : decode cX8_takesNumber 22 = .ok (.aload_n 0, 1) := by decide +kernel
theorem dX8_takesNumber_23 : decode cX8_takesNumber 23 = .ok (.getfield 82, 3) := by decide +kernel
theorem dX8_takesNumber_26 : decode cX8_takesNumber 26 = .ok (.iload_n 1, 1) := by decide +kernel
theorem dX8_takesNumber_27 : decode cX8_takesNumber 27 = .ok (.baload, 1) := by decide +kernel
theorem dX8_takesNumber_28 : decode cX8_takesNumber 28 = .ok (.bipush 48, 2) := by decide +kernel
theorem dX8_takesNumber_30 : decode cX8_takesNumber 30 = .ok (.if_icmp .lt 51, 3) := by decide +kernel
theorem dX8_takesNumber_33 : decode cX8_takesNumber 33 = .ok (.aload_n 0, 1) := by decide +kernel
theorem dX8_takesNumber_34 : decode cX8_takesNumber 34 = .ok (.getfield 82, 3) := by decide +kernel
theorem dX8_takesNumber_37 : decode cX8_takesNumber 37 = .ok (.iload_n 1, 1) := by decide +kernel
theorem dX8_takesNumber_38 : decode cX8_takesNumber 38 = .ok (.baload, 1) := by decide +kernel
theorem dX8_takesNumber_39 : decode cX8_takesNumber 39 = .ok (.bipush 57, 2) := by decide +kernel
theorem dX8_takesNumber_41 : decode cX8_takesNumber 41 = .ok (.if_icmp .gt 40, 3) := by decide +kernel
theorem dX8_takesNumber_44 : decode cX8_takesNumber 44 = .ok (.iload_n 1, 1) := by decide +kernel
theorem dX8_takesNumber_45 : decode cX8_takesNumber 45 = .ok (.aload_n 0, 1) := by decide +kernel
theorem dX8_takesNumber_46 : decode cX8_takesNumber 46 = .ok (.getfield 153, 3) := by decide +kernel
theorem dX8_takesNumber_49 : decode cX8_takesNumber 49 = .ok (.isub, 1) := by decide +kernel
theorem dX8_takesNumber_50 : decode cX8_takesNumber 50 = .ok (.iconst 3, 1) := by decide +kernel
theorem dX8_takesNumber_51 : decode cX8_takesNumber 51 = .ok (.if_icmp .ge 24, 3) := by decide +kernel
theorem dX8_takesNumber_54 : decode cX8_takesNumber 54 = .ok (.aload_n 0, 1) := by decide +kernel
theorem dX8_takesNumber_55 : decode cX8_takesNumber 55 = .ok (.bipush 10, 2) := by decide +kernel
theorem dX8_takesNumber_57 : decode cX8_takesNumber 57 = .ok (.aload_n 0, 1) := by decide +kernel
theorem dX8_takesNumber_58 : decode cX8_takesNumber 58 = .ok (.getfield 169, 3) := by decide +kernel
theorem dX8_takesNumber_61 : decode cX8_takesNumber 61 = .ok (.imul, 1) := by decide +kernel
theorem dX8_takesNumber_62 : decode cX8_takesNumber 62 = .ok (.aload_n 0, 1) := by decide +kernel
theorem dX8_takesNumber_63 : decode cX8_takesNumber 63 = .ok (.getfield 82, 3) := by decide +kernel
theorem dX8_takesNumber_66 : decode cX8_takesNumber 66 = .ok (.iload_n 1, 1) := by decide +kernel
theorem dX8_takesNumber_67 : decode cX8_takesNumber 67 = .ok (.baload, 1) := by decide +kernel
theorem dX8_takesNumber_68 : decode cX8_takesNumber 68 = .ok (.iadd, 1) := by decide +kernel
theorem dX8_takesNumber_69 : decode cX8_takesNumber 69 = .ok (.bipush 48, 2) := by decide +kernel
theorem dX8_takesNumber_71 : decode cX8_takesNumber 71 = .ok (.isub, 1) := by decide +kernel
theorem dX8_takesNumber_72 : decode cX8_takesNumber 72 = .ok (.putfield 169, 3) := by decide +kernel
theorem dX8_takesNumber_75 : decode cX8_takesNumber 75 = .ok (.iinc 1 1, 3) := by decide +kernel
theorem dX8_takesNumber_78 : decode cX8_takesNumber 78 = .ok (.goto (-64), 3) := by decide +kernel
theorem dX8_takesNumber_81 : decode cX8_takesNumber 81 = .ok (.iload_n 1, 1) := by decide +kernel
theorem dX8_takesNumber_82 : decode cX8_takesNumber 82 = .ok (.aload_n 0, 1) := by decide +kernel
theorem dX8_takesNumber_83 : decode cX8_takesNumber 83 = .ok (.getfield 153, 3) := by decide +kernel
theorem dX8_takesNumber_86 : decode cX8_takesNumber 86 = .ok (.if_icmp .eq 13, 3) := by decide +kernel
theorem dX8_takesNumber_89 : decode cX8_takesNumber 89 = .ok (.iload_n 1, 1) := by decide +kernel
theorem dX8_takesNumber_90 : decode cX8_takesNumber 90 = .ok (.aload_n 0, 1) := by decide +kernel
theorem dX8_takesNumber_91 : decode cX8_takesNumber 91 = .ok (.getfield 153, 3) := by decide +kernel
theorem dX8_takesNumber_94 : decode cX8_takesNumber 94 = .ok (.isub, 1) := by decide +kernel
theorem dX8_takesNumber_95 : decode cX8_takesNumber 95 = .ok (.iconst 3, 1) := by decide +kernel
theorem dX8_takesNumber_96 : decode cX8_takesNumber 96 = .ok (.if_icmp .le 5, 3) := by decide +kernel
theorem dX8_takesNumber_99 : decode cX8_takesNumber 99 = .ok (.iconst 0, 1) := by decide +kernel
theorem dX8_takesNumber_100 : decode cX8_takesNumber 100 = .ok (.ireturn, 1) := by decide +kernel
theorem dX8_takesNumber_101 : decode cX8_takesNumber 101 = .ok (.aload_n 0, 1) := by decide +kernel
theorem dX8_takesNumber_102 : decode cX8_takesNumber 102 = .ok (.iload_n 1, 1) := by decide +kernel
theorem dX8_takesNumber_103 : decode cX8_takesNumber 103 = .ok (.putfield 153, 3) := by decide +kernel
theorem dX8_takesNumber_106 : decode cX8_takesNumber 106 = .ok (.iconst 1, 1) := by decide +kernel
theorem dX8_takesNumber_107 : decode cX8_takesNumber 107 = .ok (.ireturn, 1) := by decide +kernel
set_option maxRecDepth 20000 in
theorem ggX8_statement_X8_takes : GoodIn wsX8_statement wsX8_takes := goodIn_r _ [16, 17, 9, 18, 19, 20, 15, 21, 10, 11, 22, 23, 24, 25, 30, 31, 32, 33, 34, 35, 36, 37, 38, 39, 40, 41, 42, 43, 44, 45, 46, 47, 48, 49, 50, 51, 52, 53, 54, 55, 56, 57, 58, 59, 60, 61, 62, 63, 64, 65, 66, 67, 68, 69, 70, 71, 72, 73, 74, 75, 76] (by decide +kernel) (by decide +kernel)
set_option maxRecDepth 20000 in
theorem gX8_statement_X8_takes : GoodIn wsX8_statement (wsV RX8 174 RX8 yX8_takes wsX8_takes) := goodIn_app (goodIn_of _ (by decide +kernel)) ggX8_statement_X8_takes
set_option maxRecDepth 20000 in
theorem ggX8_statement_X8_takesNumber : GoodIn wsX8_statement wsX8_takesNumber := goodIn_r _ [29, 9, 6, 10, 11, 22, 23, 24, 15, 25, 30, 31, 32, 33, 34, 35, 36, 37, 38, 39, 40, 41, 42, 43, 44, 45, 46, 47, 48, 49, 50, 51, 52, 53, 54, 55, 56, 57, 58, 59, 60, 61, 62, 63, 64, 65, 66, 67, 68, 69, 70, 71, 72, 73, 74, 75, 76] (by decide +kernel) (by decide +kernel)
set_option maxRecDepth 20000 in
theorem gX8_statement_X8_takesNumber : GoodIn wsX8_statement (wsV RX8 184 RX8 yX8_takesNumber wsX8_takesNumber) := goodIn_app (goodIn_of _ (by decide +kernel)) ggX8_statement_X8_takesNumber
set_option maxRecDepth 20000 in
theorem ggX8_statement_X8_blanks : GoodIn wsX8_statement wsX8_blanks := goodIn_r _ [25, 9, 10, 11, 30, 31, 32, 33, 34, 35, 36, 37, 38, 39, 40, 41, 42, 43, 44, 45, 46, 47, 48, 49, 50, 51, 52, 53, 54, 55, 56, 57, 58, 59, 60, 61, 62, 63, 64, 65, 66, 67, 68, 69, 70, 71, 72, 73, 74, 75, 76] (by decide +kernel) (by decide +kernel)
set_option maxRecDepth 20000 in
theorem gX8_statement_X8_blanks : GoodIn wsX8_statement (wsV RX8 159 RX8 yX8_blanks wsX8_blanks) := goodIn_app (goodIn_of _ (by decide +kernel)) ggX8_statement_X8_blanks
theorem dX8_statement_0 : decode cX8_statement 0 = .ok (.aload_n 0, 1) := by decide +kernel
theorem dX8_statement_1 : decode cX8_statement 1 = .ok (.ldc2_w 172, 3) := by decide +kernel
theorem dX8_statement_4 : decode cX8_statement 4 = .ok (.invokevirtual 174, 3) := by decide +kernel
theorem dX8_statement_7 : decode cX8_statement 7 = .ok (.ifCond .eq 84, 3) := by decide +kernel
theorem dX8_statement_10 : decode cX8_statement 10 = .ok (.aload_n 0, 1) := by decide +kernel
theorem dX8_statement_11 : decode cX8_statement 11 = .ok (.ldc2_w 178, 3) := by decide +kernel
theorem dX8_statement_14 : decode cX8_statement 14 = .ok (.invokevirtual 174, 3) := by decide +kernel
theorem dX8_statement_17 : decode cX8_statement 17 = .ok (.ifCond .eq 7, 3) := by decide +kernel
theorem dX8_statement_20 : decode cX8_statement 20 = .ok (.iconst 0, 1) := by decide +kernel
theorem dX8_statement_21 : decode cX8_statement 21 = .ok (.goto 32, 3) := by decide +kernel
theorem dX8_statement_24 : decode cX8_statement 24 = .ok (.aload_n 0, 1) := by decide +kernel
theorem dX8_statement_25 : decode cX8_statement 25 = .ok (.ldc2_w 180, 3) := by decide +kernel
theorem dX8_statement_28 : decode cX8_statement 28 = .ok (.invokevirtual 174, 3) := by decide +kernel
theorem dX8_statement_31 : decode cX8_statement 31 = .ok (.ifCond .eq 7, 3) := by decide +kernel
theorem dX8_statement_34 : decode cX8_statement 34 = .ok (.iconst 1, 1) := by decide +kernel
theorem dX8_statement_35 : decode cX8_statement 35 = .ok (.goto 18, 3) := by decide +kernel
theorem dX8_statement_38 : decode cX8_statement 38 = .ok (.aload_n 0, 1) := by decide +kernel
theorem dX8_statement_39 : decode cX8_statement 39 = .ok (.ldc2_w 182, 3) := by decide +kernel
theorem dX8_statement_42 : decode cX8_statement 42 = .ok (.invokevirtual 174, 3) := by decide +kernel
theorem dX8_statement_45 : decode cX8_statement 45 = .ok (.ifCond .eq 7, 3) := by decide +kernel
theorem dX8_statement_48 : decode cX8_statement 48 = .ok (.iconst 2, 1) := by decide +kernel
theorem dX8_statement_49 : decode cX8_statement 49 = .ok (.goto 4, 3) := by decide +kernel
theorem dX8_statement_52 : decode cX8_statement 52 = .ok (.iconst (-1), 1) := by decide +kernel
theorem dX8_statement_53 : decode cX8_statement 53 = .ok (.istore_n 1, 1) := by decide +kernel
theorem dX8_statement_54 : decode cX8_statement 54 = .ok (.iload_n 1, 1) := by decide +kernel
theorem dX8_statement_55 : decode cX8_statement 55 = .ok (.iconst (-1), 1) := by decide +kernel
theorem dX8_statement_56 : decode cX8_statement 56 = .ok (.if_icmp .ne 5, 3) := by decide +kernel
theorem dX8_statement_59 : decode cX8_statement 59 = .ok (.iconst 0, 1) := by decide +kernel
theorem dX8_statement_60 : decode cX8_statement 60 = .ok (.ireturn, 1) := by decide +kernel
theorem dX8_statement_61 : decode cX8_statement 61 = .ok (.aload_n 0, 1) := by decide +kernel
theorem dX8_statement_62 : decode cX8_statement 62 = .ok (.getfield 88, 3) := by decide +kernel
theorem dX8_statement_65 : decode cX8_statement 65 = .ok (.bipush 15, 2) := by decide +kernel
theorem dX8_statement_67 : decode cX8_statement 67 = .ok (.aload_n 0, 1) := by decide +kernel
theorem dX8_statement_68 : decode cX8_statement 68 = .ok (.getfield 88, 3) := by decide +kernel
theorem dX8_statement_71 : decode cX8_statement 71 = .ok (.bipush 14, 2) := by decide +kernel
theorem dX8_statement_73 : decode cX8_statement 73 = .ok (.iaload, 1) := by decide +kernel
theorem dX8_statement_74 : decode cX8_statement 74 = .ok (.iadd, 1) := by decide +kernel
theorem dX8_statement_75 : decode cX8_statement 75 = .ok (.iload_n 1, 1) := by decide +kernel
theorem dX8_statement_76 : decode cX8_statement 76 = .ok (.iastore, 1) := by decide +kernel
theorem dX8_statement_77 : decode cX8_statement 77 = .ok (.aload_n 0, 1) := by decide +kernel
theorem dX8_statement_78 : decode cX8_statement 78 = .ok (.getfield 88, 3) := by decide +kernel
theorem dX8_statement_81 : decode cX8_statement 81 = .ok (.bipush 14, 2) := by decide +kernel
theorem dX8_statement_83 : decode cX8_statement 83 = .ok (.dup2, 1) := by decide +kernel
theorem dX8_statement_84 : decode cX8_statement 84 = .ok (.iaload, 1) := by decide +kernel
theorem dX8_statement_85 : decode cX8_statement 85 = .ok (.iconst 1, 1) := by decide +kernel
theorem dX8_statement_86 : decode cX8_statement 86 = .ok (.iadd, 1) := by decide +kernel
theorem dX8_statement_87 : decode cX8_statement 87 = .ok (.iastore, 1) := by decide +kernel
theorem dX8_statement_88 : decode cX8_statement 88 = .ok (.goto 89, 3) := by decide +kernel
theorem dX8_statement_91 : decode cX8_statement 91 = .ok (.aload_n 0, 1) := by decide +kernel
theorem dX8_statement_92 : decode cX8_statement 92 = .ok (.ldc2_w 182, 3) := by decide +kernel
theorem dX8_statement_95 : decode cX8_statement 95 = .ok (.invokevirtual 174, 3) := by decide +kernel
theorem dX8_statement_98 : decode cX8_statement 98 = .ok (.ifCond .eq 26, 3) := by decide +kernel
theorem dX8_statement_101 : decode cX8_statement 101 = .ok (.aload_n 0, 1) := by decide +kernel
theorem dX8_statement_102 : decode cX8_statement 102 = .ok (.invokevirtual 184, 3) := by decide +kernel
theorem dX8_statement_105 : decode cX8_statement 105 = .ok (.ifCond .ne 5, 3) := by decide +kernel
theorem dX8_statement_108 : decode cX8_statement 108 = .ok (.iconst 0, 1) := by decide +kernel
theorem dX8_statement_109 : decode cX8_statement 109 = .ok (.ireturn, 1) := by decide +kernel
theorem dX8_statement_110 : decode cX8_statement 110 = .ok (.aload_n 0, 1) := by decide +kernel
theorem dX8_statement_111 : decode cX8_statement 111 = .ok (.getfield 88, 3) := by decide +kernel
theorem dX8_statement_114 : decode cX8_statement 114 = .ok (.bipush 25, 2) := by decide +kernel
theorem dX8_statement_116 : decode cX8_statement 116 = .ok (.aload_n 0, 1) := by decide +kernel
theorem dX8_statement_117 : decode cX8_statement 117 = .ok (.getfield 169, 3) := by decide +kernel
theorem dX8_statement_120 : decode cX8_statement 120 = .ok (.iastore, 1) := by decide +kernel
theorem dX8_statement_121 : decode cX8_statement 121 = .ok (.goto 56, 3) := by decide +kernel
theorem dX8_statement_124 : decode cX8_statement 124 = .ok (.aload_n 0, 1) := by decide +kernel
theorem dX8_statement_125 : decode cX8_statement 125 = .ok (.ldc2_w 188, 3) := by decide +kernel
theorem dX8_statement_128 : decode cX8_statement 128 = .ok (.invokevirtual 174, 3) := by decide +kernel
theorem dX8_statement_131 : decode cX8_statement 131 = .ok (.ifCond .eq 26, 3) := by decide +kernel
theorem dX8_statement_134 : decode cX8_statement 134 = .ok (.aload_n 0, 1) := by decide +kernel
theorem dX8_statement_135 : decode cX8_statement 135 = .ok (.invokevirtual 184, 3) := by decide +kernel
theorem dX8_statement_138 : decode cX8_statement 138 = .ok (.ifCond .ne 5, 3) := by decide +kernel
theorem dX8_statement_141 : decode cX8_statement 141 = .ok (.iconst 0, 1) := by decide +kernel
theorem dX8_statement_142 : decode cX8_statement 142 = .ok (.ireturn, 1) := by decide +kernel
theorem dX8_statement_143 : decode cX8_statement 143 = .ok (.aload_n 0, 1) := by decide +kernel
theorem dX8_statement_144 : decode cX8_statement 144 = .ok (.getfield 88, 3) := by decide +kernel
theorem dX8_statement_147 : decode cX8_statement 147 = .ok (.bipush 26, 2) := by decide +kernel
theorem dX8_statement_149 : decode cX8_statement 149 = .ok (.aload_n 0, 1) := by decide +kernel
theorem dX8_statement_150 : decode cX8_statement 150 = .ok (.getfield 169, 3) := by decide +kernel
theorem dX8_statement_153 : decode cX8_statement 153 = .ok (.iastore, 1) := by decide +kernel
theorem dX8_statement_154 : decode cX8_statement 154 = .ok (.goto 23, 3) := by decide +kernel
theorem dX8_statement_157 : decode cX8_statement 157 = .ok (.aload_n 0, 1) := by decide +kernel
theorem dX8_statement_158 : decode cX8_statement 158 = .ok (.ldc2_w 190, 3) := by decide +kernel
theorem dX8_statement_161 : decode cX8_statement 161 = .ok (.invokevirtual 174, 3) := by decide +kernel
theorem dX8_statement_164 : decode cX8_statement 164 = .ok (.ifCond .ne 5, 3) := by decide +kernel
theorem dX8_statement_167 : decode cX8_statement 167 = .ok (.iconst 0, 1) := by decide +kernel
theorem dX8_statement_168 : decode cX8_statement 168 = .ok (.ireturn, 1) := by decide +kernel
theorem dX8_statement_169 : decode cX8_statement 169 = .ok (.aload_n 0, 1) := by decide +kernel
theorem dX8_statement_170 : decode cX8_statement 170 = .ok (.getfield 88, 3) := by decide +kernel
theorem dX8_statement_173 : decode cX8_statement 173 = .ok (.bipush 27, 2) := by decide +kernel
theorem dX8_statement_175 : decode cX8_statement 175 = .ok (.iconst 1, 1) := by decide +kernel
theorem dX8_statement_176 : decode cX8_statement 176 = .ok (.iastore, 1) := by decide +kernel
theorem dX8_statement_177 : decode cX8_statement 177 = .ok (.aload_n 0, 1) := by decide +kernel
theorem dX8_statement_178 : decode cX8_statement 178 = .ok (.invokevirtual 159, 3) := by decide +kernel
theorem dX8_statement_181 : decode cX8_statement 181 = .ok (.aload_n 0, 1) := by decide +kernel
theorem dX8_statement_182 : decode cX8_statement 182 = .ok (.getfield 153, 3) := by decide +kernel
theorem dX8_statement_185 : decode cX8_statement 185 = .ok (.aload_n 0, 1) := by decide +kernel
theorem dX8_statement_186 : decode cX8_statement 186 = .ok (.getfield 156, 3) := by decide +kernel
theorem dX8_statement_189 : decode cX8_statement 189 = .ok (.if_icmp .eq 17, 3) := by decide +kernel
theorem dX8_statement_192 : decode cX8_statement 192 = .ok (.aload_n 0, 1) := by decide +kernel
theorem dX8_statement_193 : decode cX8_statement 193 = .ok (.getfield 82, 3) := by decide +kernel
theorem dX8_statement_196 : decode cX8_statement 196 = .ok (.aload_n 0, 1) := by decide +kernel
theorem dX8_statement_197 : decode cX8_statement 197 = .ok (.getfield 153, 3) := by decide +kernel
theorem dX8_statement_200 : decode cX8_statement 200 = .ok (.baload, 1) := by decide +kernel
theorem dX8_statement_201 : decode cX8_statement 201 = .ok (.bipush 59, 2) := by decide +kernel
theorem dX8_statement_203 : decode cX8_statement 203 = .ok (.if_icmp .eq 5, 3) := by decide +kernel
theorem dX8_statement_206 : decode cX8_statement 206 = .ok (.iconst 0, 1) := by decide +kernel
theorem dX8_statement_207 : decode cX8_statement 207 = .ok (.ireturn, 1) := by decide +kernel
theorem dX8_statement_208 : decode cX8_statement 208 = .ok (.aload_n 0, 1) := by decide +kernel
theorem dX8_statement_209 : decode cX8_statement 209 = .ok (.dup, 1) := by decide +kernel
theorem dX8_statement_210 : decode cX8_statement 210 = .ok (.getfield 153, 3) := by decide +kernel
theorem dX8_statement_213 : decode cX8_statement 213 = .ok (.iconst 1, 1) := by decide +kernel
theorem dX8_statement_214 : decode cX8_statement 214 = .ok (.iadd, 1) := by decide +kernel
theorem dX8_statement_215 : decode cX8_statement 215 = .ok (.putfield 153, 3) := by decide +kernel
theorem dX8_statement_218 : decode cX8_statement 218 = .ok (.iconst 1, 1) := by decide +kernel
theorem dX8_statement_219 : decode cX8_statement 219 = .ok (.ireturn, 1) := by decide +kernel
set_option maxRecDepth 20000 in
theorem ggX8_custom__X8_isIn : GoodIn wsX8_custom_ wsX8_isIn := goodIn_r _ [12] (by decide +kernel) (by decide +kernel)
set_option maxRecDepth 20000 in
theorem gX8_custom__X8_isIn : GoodIn wsX8_custom_ (va_wsS RX8 121 yX8_isIn wsX8_isIn) := goodIn_app (goodIn_of _ (by decide +kernel)) ggX8_custom__X8_isIn
set_option maxRecDepth 20000 in
theorem ggX8_custom__X8_blanks : GoodIn wsX8_custom_ wsX8_blanks := goodIn_r _ [16, 5, 4, 2, 41, 42, 43, 44, 45, 46, 47, 48, 49, 50, 51, 52, 53, 54, 55, 56, 57, 58, 59, 60, 61, 62, 63, 64, 65, 66, 67, 68, 69, 70, 71, 72, 73, 74, 75, 76, 77, 78, 79, 80, 81, 82, 83, 84, 85, 86, 87] (by decide +kernel) (by decide +kernel)
set_option maxRecDepth 20000 in
theorem gX8_custom__X8_blanks : GoodIn wsX8_custom_ (wsV RX8 159 RX8 yX8_blanks wsX8_blanks) := goodIn_app (goodIn_of _ (by decide +kernel)) ggX8_custom__X8_blanks
set_option maxRecDepth 20000 in
theorem ggX8_custom__X8_statement : GoodIn wsX8_custom_ wsX8_statement := goodIn_r _ [20, 21, 22, 23, 24, 6, 25, 26, 27, 5, 4, 2, 28, 29, 30, 11, 31, 32, 33, 34, 35, 36, 13, 14, 15, 16, 37, 38, 39, 40, 41, 42, 43, 44, 45, 46, 47, 48, 49, 50, 51, 52, 53, 54, 55, 56, 57, 58, 59, 60, 61, 62, 63, 64, 65, 66, 67, 68, 69, 70, 71, 72, 73, 74, 75, 76, 77, 78, 79, 80, 81, 82, 83, 84, 85, 86, 87] (by decide +kernel) (by decide +kernel)
set_option maxRecDepth 20000 in
theorem gX8_custom__X8_statement : GoodIn wsX8_custom_ (wsV RX8 192 RX8 yX8_statement wsX8_statement) := goodIn_app (goodIn_of _ (by decide +kernel)) ggX8_custom__X8_statement
theorem dX8_custom__0 : decode cX8_custom_ 0 = .ok (.iload_n 1, 1) := by decide +kernel
theorem dX8_custom__1 : decode cX8_custom_ 1 = .ok (.iconst 0, 1) := by decide +kernel
theorem dX8_custom__2 : decode cX8_custom_ 2 = .ok (.aload_n 0, 1) := by decide +kernel
theorem dX8_custom__3 : decode cX8_custom_ 3 = .ok (.getfield 146, 3) := by decide +kernel
theorem dX8_custom__6 : decode cX8_custom_ 6 = .ok (.invokestatic 121, 3) := by decide +kernel
theorem dX8_custom__9 : decode cX8_custom_ 9 = .ok (.ifCond .ne 6, 3) := by decide +kernel
theorem dX8_custom__12 : decode cX8_custom_ 12 = .ok (.bipush (-2), 2) := by decide +kernel
theorem dX8_custom__14 : decode cX8_custom_ 14 = .ok (.ireturn, 1) := by decide +kernel
theorem dX8_custom__15 : decode cX8_custom_ 15 = .ok (.iconst 0, 1) := by decide +kernel
theorem dX8_custom__16 : decode cX8_custom_ 16 = .ok (.istore_n 2, 1) := by decide +kernel
theorem dX8_custom__17 : decode cX8_custom_ 17 = .ok (.iload_n 2, 1) := by decide +kernel
theorem dX8_custom__18 : decode cX8_custom_ 18 = .ok (.iload_n 1, 1) := by decide +kernel
theorem dX8_custom__19 : decode cX8_custom_ 19 = .ok (.if_icmp .ge 21, 3) := by decide +kernel
theorem dX8_custom__22 : decode cX8_custom_ 22 = .ok (.aload_n 0, 1) := by decide +kernel
theorem dX8_custom__23 : decode cX8_custom_ 23 = .ok (.getfield 82, 3) := by decide +kernel
theorem dX8_custom__26 : decode cX8_custom_ 26 = .ok (.iload_n 2, 1) := by decide +kernel
theorem dX8_custom__27 : decode cX8_custom_ 27 = .ok (.aload_n 0, 1) := by decide +kernel
theorem dX8_custom__28 : decode cX8_custom_ 28 = .ok (.getfield 78, 3) := by decide +kernel
theorem dX8_custom__31 : decode cX8_custom_ 31 = .ok (.iload_n 2, 1) := by decide +kernel
theorem dX8_custom__32 : decode cX8_custom_ 32 = .ok (.baload, 1) := by decide +kernel
theorem dX8_custom__33 : decode cX8_custom_ 33 = .ok (.bastore, 1) := by decide +kernel
theorem dX8_custom__34 : decode cX8_custom_ 34 = .ok (.iinc 2 1, 3) := by decide +kernel
theorem dX8_custom__37 : decode cX8_custom_ 37 = .ok (.goto (-20), 3) := by decide +kernel
theorem dX8_custom__40 : decode cX8_custom_ 40 = .ok (.aload_n 0, 1) := by decide +kernel
theorem dX8_custom__41 : decode cX8_custom_ 41 = .ok (.iload_n 1, 1) := by decide +kernel
theorem dX8_custom__42 : decode cX8_custom_ 42 = .ok (.putfield 156, 3) := by decide +kernel
theorem dX8_custom__45 : decode cX8_custom_ 45 = .ok (.aload_n 0, 1) := by decide +kernel
theorem dX8_custom__46 : decode cX8_custom_ 46 = .ok (.iconst 0, 1) := by decide +kernel
theorem dX8_custom__47 : decode cX8_custom_ 47 = .ok (.putfield 146, 3) := by decide +kernel
theorem dX8_custom__50 : decode cX8_custom_ 50 = .ok (.aload_n 0, 1) := by decide +kernel
theorem dX8_custom__51 : decode cX8_custom_ 51 = .ok (.iconst 0, 1) := by decide +kernel
theorem dX8_custom__52 : decode cX8_custom_ 52 = .ok (.putfield 153, 3) := by decide +kernel
theorem dX8_custom__55 : decode cX8_custom_ 55 = .ok (.iconst 0, 1) := by decide +kernel
theorem dX8_custom__56 : decode cX8_custom_ 56 = .ok (.istore_n 2, 1) := by decide +kernel
theorem dX8_custom__57 : decode cX8_custom_ 57 = .ok (.iload_n 2, 1) := by decide +kernel
theorem dX8_custom__58 : decode cX8_custom_ 58 = .ok (.bipush 14, 2) := by decide +kernel
theorem dX8_custom__60 : decode cX8_custom_ 60 = .ok (.if_icmp .ge 30, 3) := by decide +kernel
theorem dX8_custom__63 : decode cX8_custom_ 63 = .ok (.aload_n 0, 1) := by decide +kernel
theorem dX8_custom__64 : decode cX8_custom_ 64 = .ok (.getfield 88, 3) := by decide +kernel
theorem dX8_custom__67 : decode cX8_custom_ 67 = .ok (.bipush 14, 2) := by decide +kernel
theorem dX8_custom__69 : decode cX8_custom_ 69 = .ok (.iload_n 2, 1) := by decide +kernel
theorem dX8_custom__70 : decode cX8_custom_ 70 = .ok (.iadd, 1) := by decide +kernel
theorem dX8_custom__71 : decode cX8_custom_ 71 = .ok (.iload_n 2, 1) := by decide +kernel
theorem dX8_custom__72 : decode cX8_custom_ 72 = .ok (.bipush 11, 2) := by decide +kernel
theorem dX8_custom__74 : decode cX8_custom_ 74 = .ok (.if_icmp .ne 8, 3) := by decide +kernel
theorem dX8_custom__77 : decode cX8_custom_ 77 = .ok (.bipush 9, 2) := by decide +kernel
theorem dX8_custom__79 : decode cX8_custom_ 79 = .ok (.goto 4, 3) := by decide +kernel
theorem dX8_custom__82 : decode cX8_custom_ 82 = .ok (.iconst 0, 1) := by decide +kernel
theorem dX8_custom__83 : decode cX8_custom_ 83 = .ok (.iastore, 1) := by decide +kernel
theorem dX8_custom__84 : decode cX8_custom_ 84 = .ok (.iinc 2 1, 3) := by decide +kernel
theorem dX8_custom__87 : decode cX8_custom_ 87 = .ok (.goto (-30), 3) := by decide +kernel
theorem dX8_custom__90 : decode cX8_custom_ 90 = .ok (.iconst 0, 1) := by decide +kernel
theorem dX8_custom__91 : decode cX8_custom_ 91 = .ok (.istore_n 2, 1) := by decide +kernel
theorem dX8_custom__92 : decode cX8_custom_ 92 = .ok (.iconst 1, 1) := by decide +kernel
theorem dX8_custom__93 : decode cX8_custom_ 93 = .ok (.istore_n 3, 1) := by decide +kernel
theorem dX8_custom__94 : decode cX8_custom_ 94 = .ok (.aload_n 0, 1) := by decide +kernel
theorem dX8_custom__95 : decode cX8_custom_ 95 = .ok (.invokevirtual 159, 3) := by decide +kernel
theorem dX8_custom__98 : decode cX8_custom_ 98 = .ok (.iload_n 3, 1) := by decide +kernel
theorem dX8_custom__99 : decode cX8_custom_ 99 = .ok (.ifCond .eq 47, 3) := by decide +kernel
theorem dX8_custom__102 : decode cX8_custom_ 102 = .ok (.aload_n 0, 1) := by decide +kernel
theorem dX8_custom__103 : decode cX8_custom_ 103 = .ok (.getfield 153, 3) := by decide +kernel
theorem dX8_custom__106 : decode cX8_custom_ 106 = .ok (.aload_n 0, 1) := by decide +kernel
theorem dX8_custom__107 : decode cX8_custom_ 107 = .ok (.getfield 156, 3) := by decide +kernel
theorem dX8_custom__110 : decode cX8_custom_ 110 = .ok (.if_icmp .ge 36, 3) := by decide +kernel
theorem dX8_custom__113 : decode cX8_custom_ 113 = .ok (.iload_n 2, 1) := by decide +kernel
theorem dX8_custom__114 : decode cX8_custom_ 114 = .ok (.bipush 10, 2) := by decide +kernel
theorem dX8_custom__116 : decode cX8_custom_ 116 = .ok (.if_icmp .ge 14, 3) := by decide +kernel
theorem dX8_custom__119 : decode cX8_custom_ 119 = .ok (.aload_n 0, 1) := by decide +kernel
theorem dX8_custom__120 : decode cX8_custom_ 120 = .ok (.invokevirtual 192, 3) := by decide +kernel
theorem dX8_custom__123 : decode cX8_custom_ 123 = .ok (.ifCond .eq 7, 3) := by decide +kernel
theorem dX8_custom__126 : decode cX8_custom_ 126 = .ok (.iconst 1, 1) := by decide +kernel
theorem dX8_custom__127 : decode cX8_custom_ 127 = .ok (.goto 4, 3) := by decide +kernel
theorem dX8_custom__130 : decode cX8_custom_ 130 = .ok (.iconst 0, 1) := by decide +kernel
theorem dX8_custom__131 : decode cX8_custom_ 131 = .ok (.istore_n 3, 1) := by decide +kernel
theorem dX8_custom__132 : decode cX8_custom_ 132 = .ok (.iinc 2 1, 3) := by decide +kernel
theorem dX8_custom__135 : decode cX8_custom_ 135 = .ok (.iload_n 3, 1) := by decide +kernel
theorem dX8_custom__136 : decode cX8_custom_ 136 = .ok (.ifCond .eq (-38), 3) := by decide +kernel
theorem dX8_custom__139 : decode cX8_custom_ 139 = .ok (.aload_n 0, 1) := by decide +kernel
theorem dX8_custom__140 : decode cX8_custom_ 140 = .ok (.invokevirtual 159, 3) := by decide +kernel
theorem dX8_custom__143 : decode cX8_custom_ 143 = .ok (.goto (-45), 3) := by decide +kernel
theorem dX8_custom__146 : decode cX8_custom_ 146 = .ok (.aload_n 0, 1) := by decide +kernel
theorem dX8_custom__147 : decode cX8_custom_ 147 = .ok (.iload_n 3, 1) := by decide +kernel
theorem dX8_custom__148 : decode cX8_custom_ 148 = .ok (.ifCond .eq 7, 3) := by decide +kernel
theorem dX8_custom__151 : decode cX8_custom_ 151 = .ok (.iconst (-1), 1) := by decide +kernel
theorem dX8_custom__152 : decode cX8_custom_ 152 = .ok (.goto 7, 3) := by decide +kernel
theorem dX8_custom__155 : decode cX8_custom_ 155 = .ok (.aload_n 0, 1) := by decide +kernel
theorem dX8_custom__156 : decode cX8_custom_ 156 = .ok (.getfield 153, 3) := by decide +kernel
theorem dX8_custom__159 : decode cX8_custom_ 159 = .ok (.putfield 85, 3) := by decide +kernel
theorem dX8_custom__162 : decode cX8_custom_ 162 = .ok (.iload_n 3, 1) := by decide +kernel
theorem dX8_custom__163 : decode cX8_custom_ 163 = .ok (.ifCond .ne 5, 3) := by decide +kernel
theorem dX8_custom__166 : decode cX8_custom_ 166 = .ok (.iconst (-1), 1) := by decide +kernel
theorem dX8_custom__167 : decode cX8_custom_ 167 = .ok (.ireturn, 1) := by decide +kernel
theorem dX8_custom__168 : decode cX8_custom_ 168 = .ok (.iconst 0, 1) := by decide +kernel
theorem dX8_custom__169 : decode cX8_custom_ 169 = .ok (.istore 4, 2) := by decide +kernel
theorem dX8_custom__171 : decode cX8_custom_ 171 = .ok (.iload 4, 2) := by decide +kernel
theorem dX8_custom__173 : decode cX8_custom_ 173 = .ok (.bipush 14, 2) := by decide +kernel
theorem dX8_custom__175 : decode cX8_custom_ 175 = .ok (.if_icmp .ge 26, 3) := by decide +kernel
theorem dX8_custom__178 : decode cX8_custom_ 178 = .ok (.aload_n 0, 1) := by decide +kernel
theorem dX8_custom__179 : decode cX8_custom_ 179 = .ok (.getfield 88, 3) := by decide +kernel
theorem dX8_custom__182 : decode cX8_custom_ 182 = .ok (.iload 4, 2) := by decide +kernel
theorem dX8_custom__184 : decode cX8_custom_ 184 = .ok (.aload_n 0, 1) := by decide +kernel
theorem dX8_custom__185 : decode cX8_custom_ 185 = .ok (.getfield 88, 3) := by decide +kernel
theorem dX8_custom__188 : decode cX8_custom_ 188 = .ok (.bipush 14, 2) := by decide +kernel
theorem dX8_custom__190 : decode cX8_custom_ 190 = .ok (.iload 4, 2) := by decide +kernel
theorem dX8_custom__192 : decode cX8_custom_ 192 = .ok (.iadd, 1) := by decide +kernel
theorem dX8_custom__193 : decode cX8_custom_ 193 = .ok (.iaload, 1) := by decide +kernel
theorem dX8_custom__194 : decode cX8_custom_ 194 = .ok (.iastore, 1) := by decide +kernel
theorem dX8_custom__195 : decode cX8_custom_ 195 = .ok (.iinc 4 1, 3) := by decide +kernel
theorem dX8_custom__198 : decode cX8_custom_ 198 = .ok (.goto (-27), 3) := by decide +kernel
theorem dX8_custom__201 : decode cX8_custom_ 201 = .ok (.aload_n 0, 1) := by decide +kernel
theorem dX8_custom__202 : decode cX8_custom_ 202 = .ok (.iconst 1, 1) := by decide +kernel
theorem dX8_custom__203 : decode cX8_custom_ 203 = .ok (.putfield 142, 3) := by decide +kernel
theorem dX8_custom__206 : decode cX8_custom_ 206 = .ok (.iload_n 2, 1) := by decide +kernel
theorem dX8_custom__207 : decode cX8_custom_ 207 = .ok (.ireturn, 1) := by decide +kernel
theorem dX8_fault_0 : decode cX8_fault 0 = .ok (.aload_n 0, 1) := by decide +kernel
theorem dX8_fault_1 : decode cX8_fault 1 = .ok (.getfield 85, 3) := by decide +kernel
theorem dX8_fault_4 : decode cX8_fault 4 = .ok (.ireturn, 1) := by decide +kernel
set_option maxRecDepth 20000 in
theorem ggX8_isAhead_X8_custom : GoodIn wsX8_isAhead wsX8_custom := goodIn_r _ [9, 10, 1, 14, 15, 16, 17, 18, 19, 20, 21, 22, 23, 24, 25, 26, 27, 28, 29, 30, 31, 32, 33, 34, 35, 36, 37, 38, 39, 40, 41, 42, 43, 44, 45, 46, 47, 48, 49, 50, 51, 52, 53, 54, 55, 56, 57, 58, 59, 60] (by decide +kernel) (by decide +kernel)
set_option maxRecDepth 20000 in
theorem gX8_isAhead_X8_custom : GoodIn wsX8_isAhead (wsV RX8 195 RX8 yX8_custom wsX8_custom) := goodIn_app (goodIn_of _ (by decide +kernel)) ggX8_isAhead_X8_custom
set_option maxRecDepth 20000 in
theorem ggX8_isAhead_X8_one : GoodIn wsX8_isAhead wsX8_one := goodIn_r _ [13] (by decide +kernel) (by decide +kernel)
set_option maxRecDepth 20000 in
theorem gX8_isAhead_X8_one : GoodIn wsX8_isAhead (va_wsS RX8 198 yX8_one wsX8_one) := goodIn_app (goodIn_of _ (by decide +kernel)) ggX8_isAhead_X8_one
theorem dX8_isAhead_0 : decode cX8_isAhead 0 = .ok (.iconst 1, 1) := by decide +kernel
theorem dX8_isAhead_1 : decode cX8_isAhead 1 = .ok (.istore_n 3, 1) := by decide +kernel
theorem dX8_isAhead_2 : decode cX8_isAhead 2 = .ok (.iload_n 3, 1) := by decide +kernel
theorem dX8_isAhead_3 : decode cX8_isAhead 3 = .ok (.aload_n 0, 1) := by decide +kernel
theorem dX8_isAhead_4 : decode cX8_isAhead 4 = .ok (.iconst 0, 1) := by decide +kernel
theorem dX8_isAhead_5 : decode cX8_isAhead 5 = .ok (.iconst 0, 1) := by decide +kernel
theorem dX8_isAhead_6 : decode cX8_isAhead 6 = .ok (.invokevirtual 195, 3) := by decide +kernel
theorem dX8_isAhead_9 : decode cX8_isAhead 9 = .ok (.if_icmp .gt 97, 3) := by decide +kernel
theorem dX8_isAhead_12 : decode cX8_isAhead 12 = .ok (.aload_n 0, 1) := by decide +kernel
theorem dX8_isAhead_13 : decode cX8_isAhead 13 = .ok (.getfield 88, 3) := by decide +kernel
theorem dX8_isAhead_16 : decode cX8_isAhead 16 = .ok (.iload_n 3, 1) := by decide +kernel
theorem dX8_isAhead_17 : decode cX8_isAhead 17 = .ok (.iaload, 1) := by decide +kernel
theorem dX8_isAhead_18 : decode cX8_isAhead 18 = .ok (.ifCond .ne 25, 3) := by decide +kernel
theorem dX8_isAhead_21 : decode cX8_isAhead 21 = .ok (.aload_n 0, 1) := by decide +kernel
theorem dX8_isAhead_22 : decode cX8_isAhead 22 = .ok (.getfield 62, 3) := by decide +kernel
theorem dX8_isAhead_25 : decode cX8_isAhead 25 = .ok (.iload_n 1, 1) := by decide +kernel
theorem dX8_isAhead_26 : decode cX8_isAhead 26 = .ok (.baload, 1) := by decide +kernel
theorem dX8_isAhead_27 : decode cX8_isAhead 27 = .ok (.invokestatic 198, 3) := by decide +kernel
theorem dX8_isAhead_30 : decode cX8_isAhead 30 = .ok (.aload_n 0, 1) := by decide +kernel
theorem dX8_isAhead_31 : decode cX8_isAhead 31 = .ok (.getfield 62, 3) := by decide +kernel
theorem dX8_isAhead_34 : decode cX8_isAhead 34 = .ok (.iload_n 2, 1) := by decide +kernel
theorem dX8_isAhead_35 : decode cX8_isAhead 35 = .ok (.baload, 1) := by decide +kernel
theorem dX8_isAhead_36 : decode cX8_isAhead 36 = .ok (.invokestatic 198, 3) := by decide +kernel
theorem dX8_isAhead_39 : decode cX8_isAhead 39 = .ok (.isub, 1) := by decide +kernel
theorem dX8_isAhead_40 : decode cX8_isAhead 40 = .ok (.goto 42, 3) := by decide +kernel
theorem dX8_isAhead_43 : decode cX8_isAhead 43 = .ok (.aload_n 0, 1) := by decide +kernel
theorem dX8_isAhead_44 : decode cX8_isAhead 44 = .ok (.getfield 88, 3) := by decide +kernel
theorem dX8_isAhead_47 : decode cX8_isAhead 47 = .ok (.iload_n 3, 1) := by decide +kernel
theorem dX8_isAhead_48 : decode cX8_isAhead 48 = .ok (.iaload, 1) := by decide +kernel
theorem dX8_isAhead_49 : decode cX8_isAhead 49 = .ok (.iconst 1, 1) := by decide +kernel
theorem dX8_isAhead_50 : decode cX8_isAhead 50 = .ok (.if_icmp .ne 19, 3) := by decide +kernel
theorem dX8_isAhead_53 : decode cX8_isAhead 53 = .ok (.aload_n 0, 1) := by decide +kernel
theorem dX8_isAhead_54 : decode cX8_isAhead 54 = .ok (.getfield 47, 3) := by decide +kernel
theorem dX8_isAhead_57 : decode cX8_isAhead 57 = .ok (.iload_n 2, 1) := by decide +kernel
theorem dX8_isAhead_58 : decode cX8_isAhead 58 = .ok (.iaload, 1) := by decide +kernel
theorem dX8_isAhead_59 : decode cX8_isAhead 59 = .ok (.aload_n 0, 1) := by decide +kernel
theorem dX8_isAhead_60 : decode cX8_isAhead 60 = .ok (.getfield 47, 3) := by decide +kernel
theorem dX8_isAhead_63 : decode cX8_isAhead 63 = .ok (.iload_n 1, 1) := by decide +kernel
theorem dX8_isAhead_64 : decode cX8_isAhead 64 = .ok (.iaload, 1) := by decide +kernel
theorem dX8_isAhead_65 : decode cX8_isAhead 65 = .ok (.isub, 1) := by decide +kernel
theorem dX8_isAhead_66 : decode cX8_isAhead 66 = .ok (.goto 16, 3) := by decide +kernel
theorem dX8_isAhead_69 : decode cX8_isAhead 69 = .ok (.aload_n 0, 1) := by decide +kernel
theorem dX8_isAhead_70 : decode cX8_isAhead 70 = .ok (.getfield 44, 3) := by decide +kernel
theorem dX8_isAhead_73 : decode cX8_isAhead 73 = .ok (.iload_n 2, 1) := by decide +kernel
theorem dX8_isAhead_74 : decode cX8_isAhead 74 = .ok (.iaload, 1) := by decide +kernel
theorem dX8_isAhead_75 : decode cX8_isAhead 75 = .ok (.aload_n 0, 1) := by decide +kernel
theorem dX8_isAhead_76 : decode cX8_isAhead 76 = .ok (.getfield 44, 3) := by decide +kernel
theorem dX8_isAhead_79 : decode cX8_isAhead 79 = .ok (.iload_n 1, 1) := by decide +kernel
theorem dX8_isAhead_80 : decode cX8_isAhead 80 = .ok (.iaload, 1) := by decide +kernel
theorem dX8_isAhead_81 : decode cX8_isAhead 81 = .ok (.isub, 1) := by decide +kernel
theorem dX8_isAhead_82 : decode cX8_isAhead 82 = .ok (.istore 4, 2) := by decide +kernel
theorem dX8_isAhead_84 : decode cX8_isAhead 84 = .ok (.iload 4, 2) := by decide +kernel
theorem dX8_isAhead_86 : decode cX8_isAhead 86 = .ok (.ifCond .eq 14, 3) := by decide +kernel
theorem dX8_isAhead_89 : decode cX8_isAhead 89 = .ok (.iload 4, 2) := by decide +kernel
theorem dX8_isAhead_91 : decode cX8_isAhead 91 = .ok (.ifCond .le 7, 3) := by decide +kernel
theorem dX8_isAhead_94 : decode cX8_isAhead 94 = .ok (.iconst 1, 1) := by decide +kernel
theorem dX8_isAhead_95 : decode cX8_isAhead 95 = .ok (.goto 4, 3) := by decide +kernel
theorem dX8_isAhead_98 : decode cX8_isAhead 98 = .ok (.iconst 0, 1) := by decide +kernel
theorem dX8_isAhead_99 : decode cX8_isAhead 99 = .ok (.ireturn, 1) := by decide +kernel
theorem dX8_isAhead_100 : decode cX8_isAhead 100 = .ok (.iinc 3 1, 3) := by decide +kernel
theorem dX8_isAhead_103 : decode cX8_isAhead 103 = .ok (.goto (-101), 3) := by decide +kernel
theorem dX8_isAhead_106 : decode cX8_isAhead 106 = .ok (.iload_n 1, 1) := by decide +kernel
theorem dX8_isAhead_107 : decode cX8_isAhead 107 = .ok (.iload_n 2, 1) := by decide +kernel
theorem dX8_isAhead_108 : decode cX8_isAhead 108 = .ok (.if_icmp .ge 7, 3) := by decide +kernel
theorem dX8_isAhead_111 : decode cX8_isAhead 111 = .ok (.iconst 1, 1) := by decide +kernel
theorem dX8_isAhead_112 : decode cX8_isAhead 112 = .ok (.goto 4, 3) := by decide +kernel
theorem dX8_isAhead_115 : decode cX8_isAhead 115 = .ok (.iconst 0, 1) := by decide +kernel
theorem dX8_isAhead_116 : decode cX8_isAhead 116 = .ok (.ireturn, 1) := by decide +kernel
set_option maxRecDepth 20000 in
theorem ggX8_ordered_X8_isAhead : GoodIn wsX8_ordered wsX8_isAhead := goodIn_r _ [8, 9, 10, 11, 12, 13, 14, 15, 7, 16, 17, 18, 19, 20, 21, 22, 23, 24, 25, 26, 27, 28, 29, 30, 31, 32, 33, 34, 35, 36, 37, 38, 39, 40, 41, 42, 43, 44, 45, 46, 47, 48, 49, 50, 51, 52, 53, 54, 55, 56, 57, 58, 59, 60, 61, 62, 63, 64, 65, 66, 67] (by decide +kernel) (by decide +kernel)
set_option maxRecDepth 20000 in
theorem gX8_ordered_X8_isAhead : GoodIn wsX8_ordered (wsV RX8 202 RX8 yX8_isAhead wsX8_isAhead) := goodIn_app (goodIn_of _ (by decide +kernel)) ggX8_ordered_X8_isAhead
theorem dX8_ordered_0 : decode cX8_ordered 0 = .ok (.iconst 0, 1) := by decide +kernel
theorem dX8_ordered_1 : decode cX8_ordered 1 = .ok (.istore_n 2, 1) := by decide +kernel
theorem dX8_ordered_2 : decode cX8_ordered 2 = .ok (.iconst 0, 1) := by decide +kernel
theorem dX8_ordered_3 : decode cX8_ordered 3 = .ok (.istore_n 3, 1) := by decide +kernel
theorem dX8_ordered_4 : decode cX8_ordered 4 = .ok (.iload_n 3, 1) := by decide +kernel
theorem dX8_ordered_5 : decode cX8_ordered 5 = .ok (.aload_n 0, 1) := by decide +kernel
theorem dX8_ordered_6 : decode cX8_ordered 6 = .ok (.getfield 139, 3) := by decide +kernel
theorem dX8_ordered_9 : decode cX8_ordered 9 = .ok (.if_icmp .ge 80, 3) := by decide +kernel
theorem dX8_ordered_12 : decode cX8_ordered 12 = .ok (.aload_n 0, 1) := by decide +kernel
theorem dX8_ordered_13 : decode cX8_ordered 13 = .ok (.getfield 41, 3) := by decide +kernel
theorem dX8_ordered_16 : decode cX8_ordered 16 = .ok (.iload_n 3, 1) := by decide +kernel
theorem dX8_ordered_17 : decode cX8_ordered 17 = .ok (.iaload, 1) := by decide +kernel
theorem dX8_ordered_18 : decode cX8_ordered 18 = .ok (.iload_n 1, 1) := by decide +kernel
theorem dX8_ordered_19 : decode cX8_ordered 19 = .ok (.if_icmp .eq 6, 3) := by decide +kernel
theorem dX8_ordered_22 : decode cX8_ordered 22 = .ok (.goto 61, 3) := by decide +kernel
theorem dX8_ordered_25 : decode cX8_ordered 25 = .ok (.iload_n 2, 1) := by decide +kernel
theorem dX8_ordered_26 : decode cX8_ordered 26 = .ok (.istore 4, 2) := by decide +kernel
theorem dX8_ordered_28 : decode cX8_ordered 28 = .ok (.iload 4, 2) := by decide +kernel
theorem dX8_ordered_30 : decode cX8_ordered 30 = .ok (.ifCond .le 42, 3) := by decide +kernel
theorem dX8_ordered_33 : decode cX8_ordered 33 = .ok (.aload_n 0, 1) := by decide +kernel
theorem dX8_ordered_34 : decode cX8_ordered 34 = .ok (.iload_n 3, 1) := by decide +kernel
theorem dX8_ordered_35 : decode cX8_ordered 35 = .ok (.aload_n 0, 1) := by decide +kernel
theorem dX8_ordered_36 : decode cX8_ordered 36 = .ok (.getfield 91, 3) := by decide +kernel
theorem dX8_ordered_39 : decode cX8_ordered 39 = .ok (.iload 4, 2) := by decide +kernel
theorem dX8_ordered_41 : decode cX8_ordered 41 = .ok (.iconst 1, 1) := by decide +kernel
theorem dX8_ordered_42 : decode cX8_ordered 42 = .ok (.isub, 1) := by decide +kernel
theorem dX8_ordered_43 : decode cX8_ordered 43 = .ok (.iaload, 1) := by decide +kernel
theorem dX8_ordered_44 : decode cX8_ordered 44 = .ok (.invokevirtual 202, 3) := by decide +kernel
theorem dX8_ordered_47 : decode cX8_ordered 47 = .ok (.ifCond .eq 25, 3) := by decide +kernel
theorem dX8_ordered_50 : decode cX8_ordered 50 = .ok (.aload_n 0, 1) := by decide +kernel
theorem dX8_ordered_51 : decode cX8_ordered 51 = .ok (.getfield 91, 3) := by decide +kernel
theorem dX8_ordered_54 : decode cX8_ordered 54 = .ok (.iload 4, 2) := by decide +kernel
theorem dX8_ordered_56 : decode cX8_ordered 56 = .ok (.aload_n 0, 1) := by decide +kernel
theorem dX8_ordered_57 : decode cX8_ordered 57 = .ok (.getfield 91, 3) := by decide +kernel
theorem dX8_ordered_60 : decode cX8_ordered 60 = .ok (.iload 4, 2) := by decide +kernel
theorem dX8_ordered_62 : decode cX8_ordered 62 = .ok (.iconst 1, 1) := by decide +kernel
theorem dX8_ordered_63 : decode cX8_ordered 63 = .ok (.isub, 1) := by decide +kernel
theorem dX8_ordered_64 : decode cX8_ordered 64 = .ok (.iaload, 1) := by decide +kernel
theorem dX8_ordered_65 : decode cX8_ordered 65 = .ok (.iastore, 1) := by decide +kernel
theorem dX8_ordered_66 : decode cX8_ordered 66 = .ok (.iinc 4 (-1), 3) := by decide +kernel
theorem dX8_ordered_69 : decode cX8_ordered 69 = .ok (.goto (-41), 3) := by decide +kernel
theorem dX8_ordered_72 : decode cX8_ordered 72 = .ok (.aload_n 0, 1) := by decide +kernel
theorem dX8_ordered_73 : decode cX8_ordered 73 = .ok (.getfield 91, 3) := by decide +kernel
theorem dX8_ordered_76 : decode cX8_ordered 76 = .ok (.iload 4, 2) := by decide +kernel
theorem dX8_ordered_78 : decode cX8_ordered 78 = .ok (.iload_n 3, 1) := by decide +kernel
theorem dX8_ordered_79 : decode cX8_ordered 79 = .ok (.iastore, 1) := by decide +kernel
theorem dX8_ordered_80 : decode cX8_ordered 80 = .ok (.iinc 2 1, 3) := by decide +kernel
theorem dX8_ordered_83 : decode cX8_ordered 83 = .ok (.iinc 3 1, 3) := by decide +kernel
theorem dX8_ordered_86 : decode cX8_ordered 86 = .ok (.goto (-82), 3) := by decide +kernel
theorem dX8_ordered_89 : decode cX8_ordered 89 = .ok (.iload_n 2, 1) := by decide +kernel
theorem dX8_ordered_90 : decode cX8_ordered 90 = .ok (.ireturn, 1) := by decide +kernel
set_option maxRecDepth 20000 in
theorem ggX8_order_X8_isTank : GoodIn wsX8_order wsX8_isTank := goodIn_r _ [6, 7, 8, 9, 5, 10, 33, 34, 35, 36, 37, 38, 39, 40, 41, 42, 43, 44, 45, 46, 47, 48, 49, 50, 51, 52, 53, 54, 55, 56, 57, 58, 59, 60, 61, 62, 63, 64, 65, 66, 67, 68, 69, 70, 71, 72, 73, 74, 75, 76, 77, 78, 79] (by decide +kernel) (by decide +kernel)
set_option maxRecDepth 20000 in
theorem gX8_order_X8_isTank : GoodIn wsX8_order (wsV RX8 125 RX8 yX8_isTank wsX8_isTank) := goodIn_app (goodIn_of _ (by decide +kernel)) ggX8_order_X8_isTank
set_option maxRecDepth 20000 in
theorem ggX8_order_X8_ordered : GoodIn wsX8_order wsX8_ordered := goodIn_r _ [14, 15, 16, 1, 17, 18, 19, 5, 20, 21, 22, 23, 24, 25, 26, 27, 28, 29, 30, 31, 32, 33, 34, 35, 36, 37, 38, 39, 40, 41, 42, 43, 44, 45, 46, 47, 48, 49, 50, 51, 52, 53, 54, 55, 56, 57, 58, 59, 60, 61, 62, 63, 64, 65, 66, 67, 68, 69, 70, 71, 72, 73, 74, 75, 76, 77, 78, 79] (by decide +kernel) (by decide +kernel)
set_option maxRecDepth 20000 in
theorem gX8_order_X8_ordered : GoodIn wsX8_order (wsV RX8 206 RX8 yX8_ordered wsX8_ordered) := goodIn_app (goodIn_of _ (by decide +kernel)) ggX8_order_X8_ordered
set_option maxRecDepth 20000 in
theorem ggX8_order_X8_isIn : GoodIn wsX8_order wsX8_isIn := goodIn_r _ [10] (by decide +kernel) (by decide +kernel)
set_option maxRecDepth 20000 in
theorem gX8_order_X8_isIn : GoodIn wsX8_order (va_wsS RX8 121 yX8_isIn wsX8_isIn) := goodIn_app (goodIn_of _ (by decide +kernel)) ggX8_order_X8_isIn
theorem dX8_order_0 : decode cX8_order 0 = .ok (.aload_n 0, 1) := by decide +kernel
theorem dX8_order_1 : decode cX8_order 1 = .ok (.iload_n 1, 1) := by decide +kernel
theorem dX8_order_2 : decode cX8_order 2 = .ok (.invokevirtual 125, 3) := by decide +kernel
theorem dX8_order_5 : decode cX8_order 5 = .ok (.ifCond .ne 5, 3) := by decide +kernel
theorem dX8_order_8 : decode cX8_order 8 = .ok (.iconst (-1), 1) := by decide +kernel
theorem dX8_order_9 : decode cX8_order 9 = .ok (.ireturn, 1) := by decide +kernel
theorem dX8_order_10 : decode cX8_order 10 = .ok (.aload_n 0, 1) := by decide +kernel
theorem dX8_order_11 : decode cX8_order 11 = .ok (.iload_n 1, 1) := by decide +kernel
theorem dX8_order_12 : decode cX8_order 12 = .ok (.invokevirtual 206, 3) := by decide +kernel
theorem dX8_order_15 : decode cX8_order 15 = .ok (.istore_n 3, 1) := by decide +kernel
theorem dX8_order_16 : decode cX8_order 16 = .ok (.iload_n 2, 1) := by decide +kernel
theorem dX8_order_17 : decode cX8_order 17 = .ok (.iconst 0, 1) := by decide +kernel
theorem dX8_order_18 : decode cX8_order 18 = .ok (.iload_n 3, 1) := by decide +kernel
theorem dX8_order_19 : decode cX8_order 19 = .ok (.iconst 1, 1) := by decide +kernel
theorem dX8_order_20 : decode cX8_order 20 = .ok (.isub, 1) := by decide +kernel
theorem dX8_order_21 : decode cX8_order 21 = .ok (.invokestatic 121, 3) := by decide +kernel
theorem dX8_order_24 : decode cX8_order 24 = .ok (.ifCond .eq 12, 3) := by decide +kernel
theorem dX8_order_27 : decode cX8_order 27 = .ok (.aload_n 0, 1) := by decide +kernel
theorem dX8_order_28 : decode cX8_order 28 = .ok (.getfield 91, 3) := by decide +kernel
theorem dX8_order_31 : decode cX8_order 31 = .ok (.iload_n 2, 1) := by decide +kernel
theorem dX8_order_32 : decode cX8_order 32 = .ok (.iaload, 1) := by decide +kernel
theorem dX8_order_33 : decode cX8_order 33 = .ok (.goto 4, 3) := by decide +kernel
theorem dX8_order_36 : decode cX8_order 36 = .ok (.iconst (-1), 1) := by decide +kernel
theorem dX8_order_37 : decode cX8_order 37 = .ok (.ireturn, 1) := by decide +kernel
theorem dX8_isBad_0 : decode cX8_isBad 0 = .ok (.iload_n 2, 1) := by decide +kernel
theorem dX8_isBad_1 : decode cX8_isBad 1 = .ok (.aload_n 0, 1) := by decide +kernel
theorem dX8_isBad_2 : decode cX8_isBad 2 = .ok (.getfield 13, 3) := by decide +kernel
theorem dX8_isBad_5 : decode cX8_isBad 5 = .ok (.iload_n 1, 1) := by decide +kernel
theorem dX8_isBad_6 : decode cX8_isBad 6 = .ok (.iaload, 1) := by decide +kernel
theorem dX8_isBad_7 : decode cX8_isBad 7 = .ok (.iconst 2, 1) := by decide +kernel
theorem dX8_isBad_8 : decode cX8_isBad 8 = .ok (.idiv, 1) := by decide +kernel
theorem dX8_isBad_9 : decode cX8_isBad 9 = .ok (.if_icmp .ge 7, 3) := by decide +kernel
theorem dX8_isBad_12 : decode cX8_isBad 12 = .ok (.iconst 1, 1) := by decide +kernel
theorem dX8_isBad_13 : decode cX8_isBad 13 = .ok (.goto 4, 3) := by decide +kernel
theorem dX8_isBad_16 : decode cX8_isBad 16 = .ok (.iconst 0, 1) := by decide +kernel
theorem dX8_isBad_17 : decode cX8_isBad 17 = .ok (.ireturn, 1) := by decide +kernel
set_option maxRecDepth 20000 in
theorem ggX8_gives_X8_custom : GoodIn wsX8_gives wsX8_custom := goodIn_r _ [18, 19, 20, 39, 40, 41, 42, 43, 44, 45, 46, 47, 48, 49, 50, 51, 52, 53, 54, 55, 56, 57, 58, 59, 60, 61, 62, 63, 64, 65, 66, 67, 68, 69, 70, 71, 72, 73, 74, 75, 76, 77, 78, 79, 80, 81, 82, 83, 84, 85] (by decide +kernel) (by decide +kernel)
set_option maxRecDepth 20000 in
theorem gX8_gives_X8_custom : GoodIn wsX8_gives (wsV RX8 195 RX8 yX8_custom wsX8_custom) := goodIn_app (goodIn_of _ (by decide +kernel)) ggX8_gives_X8_custom
set_option maxRecDepth 20000 in
theorem ggX8_gives_X8_ordered : GoodIn wsX8_gives wsX8_ordered := goodIn_r _ [24, 25, 26, 9, 27, 28, 29, 17, 30, 20, 31, 13, 12, 14, 15, 16, 18, 19, 32, 33, 34, 39, 40, 41, 42, 43, 44, 45, 46, 47, 48, 49, 50, 51, 52, 53, 54, 55, 56, 57, 58, 59, 60, 61, 62, 63, 64, 65, 66, 67, 68, 69, 70, 71, 72, 73, 74, 75, 76, 77, 78, 79, 80, 81, 82, 83, 84, 85] (by decide +kernel) (by decide +kernel)
set_option maxRecDepth 20000 in
theorem gX8_gives_X8_ordered : GoodIn wsX8_gives (wsV RX8 206 RX8 yX8_ordered wsX8_ordered) := goodIn_app (goodIn_of _ (by decide +kernel)) ggX8_gives_X8_ordered
set_option maxRecDepth 20000 in
theorem ggX8_gives_X8_isBad : GoodIn wsX8_gives wsX8_isBad := goodIn_r _ [38, 1, 39, 40, 41, 42, 43, 44, 45, 46, 47, 48, 49, 50, 51, 52, 53, 54, 55, 56, 57, 58, 59, 60, 61, 62, 63, 64, 65, 66, 67, 68, 69, 70, 71, 72, 73, 74, 75, 76, 77, 78, 79, 80, 81, 82, 83, 84, 85] (by decide +kernel) (by decide +kernel)
set_option maxRecDepth 20000 in
theorem gX8_gives_X8_isBad : GoodIn wsX8_gives (wsV RX8 210 RX8 yX8_isBad wsX8_isBad) := goodIn_app (goodIn_of _ (by decide +kernel)) ggX8_gives_X8_isBad
theorem dX8_gives_0 : decode cX8_gives 0 = .ok (.iload_n 3, 1) := by decide +kernel
theorem dX8_gives_1 : decode cX8_gives 1 = .ok (.iconst 0, 1) := by decide +kernel
theorem dX8_gives_2 : decode cX8_gives 2 = .ok (.iload_n 2, 1) := by decide +kernel
theorem dX8_gives_3 : decode cX8_gives 3 = .ok (.aload_n 0, 1) := by decide +kernel
theorem dX8_gives_4 : decode cX8_gives 4 = .ok (.bipush 12, 2) := by decide +kernel
theorem dX8_gives_6 : decode cX8_gives 6 = .ok (.iconst 0, 1) := by decide +kernel
theorem dX8_gives_7 : decode cX8_gives 7 = .ok (.invokevirtual 195, 3) := by decide +kernel
theorem dX8_gives_10 : decode cX8_gives 10 = .ok (.aload_n 0, 1) := by decide +kernel
theorem dX8_gives_11 : decode cX8_gives 11 = .ok (.getfield 13, 3) := by decide +kernel
theorem dX8_gives_14 : decode cX8_gives 14 = .ok (.iload_n 1, 1) := by decide +kernel
theorem dX8_gives_15 : decode cX8_gives 15 = .ok (.iaload, 1) := by decide +kernel
theorem dX8_gives_16 : decode cX8_gives 16 = .ok (.imul, 1) := by decide +kernel
theorem dX8_gives_17 : decode cX8_gives 17 = .ok (.bipush 100, 2) := by decide +kernel
theorem dX8_gives_19 : decode cX8_gives 19 = .ok (.idiv, 1) := by decide +kernel
theorem dX8_gives_20 : decode cX8_gives 20 = .ok (.isub, 1) := by decide +kernel
theorem dX8_gives_21 : decode cX8_gives 21 = .ok (.invokestatic 115, 3) := by decide +kernel
theorem dX8_gives_24 : decode cX8_gives 24 = .ok (.invokestatic 109, 3) := by decide +kernel
theorem dX8_gives_27 : decode cX8_gives 27 = .ok (.istore 4, 2) := by decide +kernel
theorem dX8_gives_29 : decode cX8_gives 29 = .ok (.aload_n 0, 1) := by decide +kernel
theorem dX8_gives_30 : decode cX8_gives 30 = .ok (.iload_n 1, 1) := by decide +kernel
theorem dX8_gives_31 : decode cX8_gives 31 = .ok (.invokevirtual 206, 3) := by decide +kernel
theorem dX8_gives_34 : decode cX8_gives 34 = .ok (.istore 5, 2) := by decide +kernel
theorem dX8_gives_36 : decode cX8_gives 36 = .ok (.iconst 0, 1) := by decide +kernel
theorem dX8_gives_37 : decode cX8_gives 37 = .ok (.istore 6, 2) := by decide +kernel
theorem dX8_gives_39 : decode cX8_gives 39 = .ok (.iconst 0, 1) := by decide +kernel
theorem dX8_gives_40 : decode cX8_gives 40 = .ok (.istore 7, 2) := by decide +kernel
theorem dX8_gives_42 : decode cX8_gives 42 = .ok (.iload 7, 2) := by decide +kernel
theorem dX8_gives_44 : decode cX8_gives 44 = .ok (.iload 5, 2) := by decide +kernel
theorem dX8_gives_46 : decode cX8_gives 46 = .ok (.if_icmp .ge 87, 3) := by decide +kernel
theorem dX8_gives_49 : decode cX8_gives 49 = .ok (.aload_n 0, 1) := by decide +kernel
theorem dX8_gives_50 : decode cX8_gives 50 = .ok (.getfield 91, 3) := by decide +kernel
theorem dX8_gives_53 : decode cX8_gives 53 = .ok (.iload 7, 2) := by decide +kernel
theorem dX8_gives_55 : decode cX8_gives 55 = .ok (.iaload, 1) := by decide +kernel
theorem dX8_gives_56 : decode cX8_gives 56 = .ok (.istore 8, 2) := by decide +kernel
theorem dX8_gives_58 : decode cX8_gives 58 = .ok (.aload_n 0, 1) := by decide +kernel
theorem dX8_gives_59 : decode cX8_gives 59 = .ok (.getfield 94, 3) := by decide +kernel
theorem dX8_gives_62 : decode cX8_gives 62 = .ok (.iload 8, 2) := by decide +kernel
theorem dX8_gives_64 : decode cX8_gives 64 = .ok (.iconst 0, 1) := by decide +kernel
theorem dX8_gives_65 : decode cX8_gives 65 = .ok (.iastore, 1) := by decide +kernel
theorem dX8_gives_66 : decode cX8_gives 66 = .ok (.aload_n 0, 1) := by decide +kernel
theorem dX8_gives_67 : decode cX8_gives 67 = .ok (.getfield 97, 3) := by decide +kernel
theorem dX8_gives_70 : decode cX8_gives 70 = .ok (.iload 8, 2) := by decide +kernel
theorem dX8_gives_72 : decode cX8_gives 72 = .ok (.aload_n 0, 1) := by decide +kernel
theorem dX8_gives_73 : decode cX8_gives 73 = .ok (.iload_n 1, 1) := by decide +kernel
theorem dX8_gives_74 : decode cX8_gives 74 = .ok (.iload_n 2, 1) := by decide +kernel
theorem dX8_gives_75 : decode cX8_gives 75 = .ok (.invokevirtual 210, 3) := by decide +kernel
theorem dX8_gives_78 : decode cX8_gives 78 = .ok (.ifCond .eq 25, 3) := by decide +kernel
theorem dX8_gives_81 : decode cX8_gives 81 = .ok (.aload_n 0, 1) := by decide +kernel
theorem dX8_gives_82 : decode cX8_gives 82 = .ok (.getfield 44, 3) := by decide +kernel
theorem dX8_gives_85 : decode cX8_gives 85 = .ok (.iload 8, 2) := by decide +kernel
theorem dX8_gives_87 : decode cX8_gives 87 = .ok (.iaload, 1) := by decide +kernel
theorem dX8_gives_88 : decode cX8_gives 88 = .ok (.aload_n 0, 1) := by decide +kernel
theorem dX8_gives_89 : decode cX8_gives 89 = .ok (.bipush 11, 2) := by decide +kernel
theorem dX8_gives_91 : decode cX8_gives 91 = .ok (.bipush 9, 2) := by decide +kernel
theorem dX8_gives_93 : decode cX8_gives 93 = .ok (.invokevirtual 195, 3) := by decide +kernel
theorem dX8_gives_96 : decode cX8_gives 96 = .ok (.if_icmp .le 7, 3) := by decide +kernel
theorem dX8_gives_99 : decode cX8_gives 99 = .ok (.iconst 1, 1) := by decide +kernel
theorem dX8_gives_100 : decode cX8_gives 100 = .ok (.goto 4, 3) := by decide +kernel
theorem dX8_gives_103 : decode cX8_gives 103 = .ok (.iconst 0, 1) := by decide +kernel
theorem dX8_gives_104 : decode cX8_gives 104 = .ok (.bastore, 1) := by decide +kernel
theorem dX8_gives_105 : decode cX8_gives 105 = .ok (.aload_n 0, 1) := by decide +kernel
theorem dX8_gives_106 : decode cX8_gives 106 = .ok (.getfield 97, 3) := by decide +kernel
theorem dX8_gives_109 : decode cX8_gives 109 = .ok (.iload 8, 2) := by decide +kernel
theorem dX8_gives_111 : decode cX8_gives 111 = .ok (.baload, 1) := by decide +kernel
theorem dX8_gives_112 : decode cX8_gives 112 = .ok (.ifCond .ne 15, 3) := by decide +kernel
theorem dX8_gives_115 : decode cX8_gives 115 = .ok (.iload 6, 2) := by decide +kernel
theorem dX8_gives_117 : decode cX8_gives 117 = .ok (.aload_n 0, 1) := by decide +kernel
theorem dX8_gives_118 : decode cX8_gives 118 = .ok (.getfield 47, 3) := by decide +kernel
theorem dX8_gives_121 : decode cX8_gives 121 = .ok (.iload 8, 2) := by decide +kernel
theorem dX8_gives_123 : decode cX8_gives 123 = .ok (.iaload, 1) := by decide +kernel
theorem dX8_gives_124 : decode cX8_gives 124 = .ok (.iadd, 1) := by decide +kernel
theorem dX8_gives_125 : decode cX8_gives 125 = .ok (.istore 6, 2) := by decide +kernel
theorem dX8_gives_127 : decode cX8_gives 127 = .ok (.iinc 7 1, 3) := by decide +kernel
theorem dX8_gives_130 : decode cX8_gives 130 = .ok (.goto (-88), 3) := by decide +kernel
theorem dX8_gives_133 : decode cX8_gives 133 = .ok (.aload_n 0, 1) := by decide +kernel
theorem dX8_gives_134 : decode cX8_gives 134 = .ok (.bipush 13, 2) := by decide +kernel
theorem dX8_gives_136 : decode cX8_gives 136 = .ok (.iconst 0, 1) := by decide +kernel
theorem dX8_gives_137 : decode cX8_gives 137 = .ok (.invokevirtual 195, 3) := by decide +kernel
theorem dX8_gives_140 : decode cX8_gives 140 = .ok (.iconst 1, 1) := by decide +kernel
theorem dX8_gives_141 : decode cX8_gives 141 = .ok (.if_icmp .ne 14, 3) := by decide +kernel
theorem dX8_gives_144 : decode cX8_gives 144 = .ok (.iload 4, 2) := by decide +kernel
theorem dX8_gives_146 : decode cX8_gives 146 = .ok (.iload 6, 2) := by decide +kernel
theorem dX8_gives_148 : decode cX8_gives 148 = .ok (.if_icmp .ge 7, 3) := by decide +kernel
theorem dX8_gives_151 : decode cX8_gives 151 = .ok (.iconst 1, 1) := by decide +kernel
theorem dX8_gives_152 : decode cX8_gives 152 = .ok (.goto 4, 3) := by decide +kernel
theorem dX8_gives_155 : decode cX8_gives 155 = .ok (.iconst 0, 1) := by decide +kernel
theorem dX8_gives_156 : decode cX8_gives 156 = .ok (.istore 7, 2) := by decide +kernel
theorem dX8_gives_158 : decode cX8_gives 158 = .ok (.iload 4, 2) := by decide +kernel
theorem dX8_gives_160 : decode cX8_gives 160 = .ok (.istore 8, 2) := by decide +kernel
theorem dX8_gives_162 : decode cX8_gives 162 = .ok (.iconst 0, 1) := by decide +kernel
theorem dX8_gives_163 : decode cX8_gives 163 = .ok (.istore 9, 2) := by decide +kernel
theorem dX8_gives_165 : decode cX8_gives 165 = .ok (.iload 9, 2) := by decide +kernel
theorem dX8_gives_167 : decode cX8_gives 167 = .ok (.iload 5, 2) := by decide +kernel
theorem dX8_gives_169 : decode cX8_gives 169 = .ok (.if_icmp .ge 94, 3) := by decide +kernel
theorem dX8_gives_172 : decode cX8_gives 172 = .ok (.aload_n 0, 1) := by decide +kernel
theorem dX8_gives_173 : decode cX8_gives 173 = .ok (.getfield 91, 3) := by decide +kernel
theorem dX8_gives_176 : decode cX8_gives 176 = .ok (.iload 9, 2) := by decide +kernel
theorem dX8_gives_178 : decode cX8_gives 178 = .ok (.iaload, 1) := by decide +kernel
theorem dX8_gives_179 : decode cX8_gives 179 = .ok (.istore 10, 2) := by decide +kernel
theorem dX8_gives_181 : decode cX8_gives 181 = .ok (.aload_n 0, 1) := by decide +kernel
theorem dX8_gives_182 : decode cX8_gives 182 = .ok (.getfield 97, 3) := by decide +kernel
theorem dX8_gives_185 : decode cX8_gives 185 = .ok (.iload 10, 2) := by decide +kernel
theorem dX8_gives_187 : decode cX8_gives 187 = .ok (.baload, 1) := by decide +kernel
theorem dX8_gives_188 : decode cX8_gives 188 = .ok (.ifCond .eq 6, 3) := by decide +kernel
theorem dX8_gives_191 : decode cX8_gives 191 = .ok (.goto 66, 3) := by decide +kernel
theorem dX8_gives_194 : decode cX8_gives 194 = .ok (.aload_n 0, 1) := by decide +kernel
theorem dX8_gives_195 : decode cX8_gives 195 = .ok (.getfield 94, 3) := by decide +kernel
theorem dX8_gives_198 : decode cX8_gives 198 = .ok (.iload 10, 2) := by decide +kernel
theorem dX8_gives_200 : decode cX8_gives 200 = .ok (.iload 7, 2) := by decide +kernel
theorem dX8_gives_202 : decode cX8_gives 202 = .ok (.ifCond .eq 19, 3) := by decide +kernel
theorem dX8_gives_205 : decode cX8_gives 205 = .ok (.iload 8, 2) := by decide +kernel
theorem dX8_gives_207 : decode cX8_gives 207 = .ok (.aload_n 0, 1) := by decide +kernel
theorem dX8_gives_208 : decode cX8_gives 208 = .ok (.getfield 47, 3) := by decide +kernel
theorem dX8_gives_211 : decode cX8_gives 211 = .ok (.iload 10, 2) := by decide +kernel
theorem dX8_gives_213 : decode cX8_gives 213 = .ok (.iaload, 1) := by decide +kernel
theorem dX8_gives_214 : decode cX8_gives 214 = .ok (.imul, 1) := by decide +kernel
theorem dX8_gives_215 : decode cX8_gives 215 = .ok (.iload 6, 2) := by decide +kernel
theorem dX8_gives_217 : decode cX8_gives 217 = .ok (.idiv, 1) := by decide +kernel
theorem dX8_gives_218 : decode cX8_gives 218 = .ok (.goto 26, 3) := by decide +kernel
theorem dX8_gives_221 : decode cX8_gives 221 = .ok (.aload_n 0, 1) := by decide +kernel
theorem dX8_gives_222 : decode cX8_gives 222 = .ok (.getfield 47, 3) := by decide +kernel
theorem dX8_gives_225 : decode cX8_gives 225 = .ok (.iload 10, 2) := by decide +kernel
theorem dX8_gives_227 : decode cX8_gives 227 = .ok (.iaload, 1) := by decide +kernel
theorem dX8_gives_228 : decode cX8_gives 228 = .ok (.iload 4, 2) := by decide +kernel
theorem dX8_gives_230 : decode cX8_gives 230 = .ok (.if_icmp .gt 13, 3) := by decide +kernel
theorem dX8_gives_233 : decode cX8_gives 233 = .ok (.aload_n 0, 1) := by decide +kernel
theorem dX8_gives_234 : decode cX8_gives 234 = .ok (.getfield 47, 3) := by decide +kernel
theorem dX8_gives_237 : decode cX8_gives 237 = .ok (.iload 10, 2) := by decide +kernel
theorem dX8_gives_239 : decode cX8_gives 239 = .ok (.iaload, 1) := by decide +kernel
theorem dX8_gives_240 : decode cX8_gives 240 = .ok (.goto 4, 3) := by decide +kernel
theorem dX8_gives_243 : decode cX8_gives 243 = .ok (.iconst 0, 1) := by decide +kernel
theorem dX8_gives_244 : decode cX8_gives 244 = .ok (.iastore, 1) := by decide +kernel
theorem dX8_gives_245 : decode cX8_gives 245 = .ok (.iload 4, 2) := by decide +kernel
theorem dX8_gives_247 : decode cX8_gives 247 = .ok (.aload_n 0, 1) := by decide +kernel
theorem dX8_gives_248 : decode cX8_gives 248 = .ok (.getfield 94, 3) := by decide +kernel
theorem dX8_gives_251 : decode cX8_gives 251 = .ok (.iload 10, 2) := by decide +kernel
theorem dX8_gives_253 : decode cX8_gives 253 = .ok (.iaload, 1) := by decide +kernel
theorem dX8_gives_254 : decode cX8_gives 254 = .ok (.isub, 1) := by decide +kernel
theorem dX8_gives_255 : decode cX8_gives 255 = .ok (.istore 4, 2) := by decide +kernel
theorem dX8_gives_257 : decode cX8_gives 257 = .ok (.iinc 9 1, 3) := by decide +kernel
theorem dX8_gives_260 : decode cX8_gives 260 = .ok (.goto (-95), 3) := by decide +kernel
theorem dX8_gives_263 : decode cX8_gives 263 = .ok (.iload 7, 2) := by decide +kernel
theorem dX8_gives_265 : decode cX8_gives 265 = .ok (.ifCond .eq 116, 3) := by decide +kernel
theorem dX8_gives_268 : decode cX8_gives 268 = .ok (.iload 4, 2) := by decide +kernel
theorem dX8_gives_270 : decode cX8_gives 270 = .ok (.ifCond .le 111, 3) := by decide +kernel
theorem dX8_gives_273 : decode cX8_gives 273 = .ok (.iconst (-1), 1) := by decide +kernel
theorem dX8_gives_274 : decode cX8_gives 274 = .ok (.istore 9, 2) := by decide +kernel
theorem dX8_gives_276 : decode cX8_gives 276 = .ok (.iconst 0, 1) := by decide +kernel
theorem dX8_gives_277 : decode cX8_gives 277 = .ok (.istore 10, 2) := by decide +kernel
theorem dX8_gives_279 : decode cX8_gives 279 = .ok (.iload 10, 2) := by decide +kernel
theorem dX8_gives_281 : decode cX8_gives 281 = .ok (.iload 5, 2) := by decide +kernel
theorem dX8_gives_283 : decode cX8_gives 283 = .ok (.if_icmp .ge 73, 3) := by decide +kernel
theorem dX8_gives_286 : decode cX8_gives 286 = .ok (.aload_n 0, 1) := by decide +kernel
theorem dX8_gives_287 : decode cX8_gives 287 = .ok (.getfield 97, 3) := by decide +kernel
theorem dX8_gives_290 : decode cX8_gives 290 = .ok (.aload_n 0, 1) := by decide +kernel
theorem dX8_gives_291 : decode cX8_gives 291 = .ok (.getfield 91, 3) := by decide +kernel
theorem dX8_gives_294 : decode cX8_gives 294 = .ok (.iload 10, 2) := by decide +kernel
theorem dX8_gives_296 : decode cX8_gives 296 = .ok (.iaload, 1) := by decide +kernel
theorem dX8_gives_297 : decode cX8_gives 297 = .ok (.baload, 1) := by decide +kernel
theorem dX8_gives_298 : decode cX8_gives 298 = .ok (.ifCond .ne 52, 3) := by decide +kernel
theorem dX8_gives_301 : decode cX8_gives 301 = .ok (.iload 9, 2) := by decide +kernel
theorem dX8_gives_303 : decode cX8_gives 303 = .ok (.iconst (-1), 1) := by decide +kernel
theorem dX8_gives_304 : decode cX8_gives 304 = .ok (.if_icmp .eq 37, 3) := by decide +kernel
theorem dX8_gives_307 : decode cX8_gives 307 = .ok (.iload 8, 2) := by decide +kernel
theorem dX8_gives_309 : decode cX8_gives 309 = .ok (.aload_n 0, 1) := by decide +kernel
theorem dX8_gives_310 : decode cX8_gives 310 = .ok (.getfield 47, 3) := by decide +kernel
theorem dX8_gives_313 : decode cX8_gives 313 = .ok (.aload_n 0, 1) := by decide +kernel
theorem dX8_gives_314 : decode cX8_gives 314 = .ok (.getfield 91, 3) := by decide +kernel
theorem dX8_gives_317 : decode cX8_gives 317 = .ok (.iload 10, 2) := by decide +kernel
theorem dX8_gives_319 : decode cX8_gives 319 = .ok (.iaload, 1) := by decide +kernel
theorem dX8_gives_320 : decode cX8_gives 320 = .ok (.iaload, 1) := by decide +kernel
theorem dX8_gives_321 : decode cX8_gives 321 = .ok (.imul, 1) := by decide +kernel
theorem dX8_gives_322 : decode cX8_gives 322 = .ok (.iload 6, 2) := by decide +kernel
theorem dX8_gives_324 : decode cX8_gives 324 = .ok (.irem, 1) := by decide +kernel
theorem dX8_gives_325 : decode cX8_gives 325 = .ok (.iload 8, 2) := by decide +kernel
theorem dX8_gives_327 : decode cX8_gives 327 = .ok (.aload_n 0, 1) := by decide +kernel
theorem dX8_gives_328 : decode cX8_gives 328 = .ok (.getfield 47, 3) := by decide +kernel
theorem dX8_gives_331 : decode cX8_gives 331 = .ok (.iload 9, 2) := by decide +kernel
theorem dX8_gives_333 : decode cX8_gives 333 = .ok (.iaload, 1) := by decide +kernel
theorem dX8_gives_334 : decode cX8_gives 334 = .ok (.imul, 1) := by decide +kernel
theorem dX8_gives_335 : decode cX8_gives 335 = .ok (.iload 6, 2) := by decide +kernel
theorem dX8_gives_337 : decode cX8_gives 337 = .ok (.irem, 1) := by decide +kernel
theorem dX8_gives_338 : decode cX8_gives 338 = .ok (.if_icmp .le 12, 3) := by decide +kernel
theorem dX8_gives_341 : decode cX8_gives 341 = .ok (.aload_n 0, 1) := by decide +kernel
theorem dX8_gives_342 : decode cX8_gives 342 = .ok (.getfield 91, 3) := by decide +kernel
theorem dX8_gives_345 : decode cX8_gives 345 = .ok (.iload 10, 2) := by decide +kernel
theorem dX8_gives_347 : decode cX8_gives 347 = .ok (.iaload, 1) := by decide +kernel
theorem dX8_gives_348 : decode cX8_gives 348 = .ok (.istore 9, 2) := by decide +kernel
theorem dX8_gives_350 : decode cX8_gives 350 = .ok (.iinc 10 1, 3) := by decide +kernel
theorem dX8_gives_353 : decode cX8_gives 353 = .ok (.goto (-74), 3) := by decide +kernel
theorem dX8_gives_356 : decode cX8_gives 356 = .ok (.aload_n 0, 1) := by decide +kernel
theorem dX8_gives_357 : decode cX8_gives 357 = .ok (.getfield 97, 3) := by decide +kernel
theorem dX8_gives_360 : decode cX8_gives 360 = .ok (.iload 9, 2) := by decide +kernel
theorem dX8_gives_362 : decode cX8_gives 362 = .ok (.iconst 1, 1) := by decide +kernel
theorem dX8_gives_363 : decode cX8_gives 363 = .ok (.bastore, 1) := by decide +kernel
theorem dX8_gives_364 : decode cX8_gives 364 = .ok (.aload_n 0, 1) := by decide +kernel
theorem dX8_gives_365 : decode cX8_gives 365 = .ok (.getfield 94, 3) := by decide +kernel
theorem dX8_gives_368 : decode cX8_gives 368 = .ok (.iload 9, 2) := by decide +kernel
theorem dX8_gives_370 : decode cX8_gives 370 = .ok (.dup2, 1) := by decide +kernel
theorem dX8_gives_371 : decode cX8_gives 371 = .ok (.iaload, 1) := by decide +kernel
theorem dX8_gives_372 : decode cX8_gives 372 = .ok (.iconst 1, 1) := by decide +kernel
theorem dX8_gives_373 : decode cX8_gives 373 = .ok (.iadd, 1) := by decide +kernel
theorem dX8_gives_374 : decode cX8_gives 374 = .ok (.iastore, 1) := by decide +kernel
theorem dX8_gives_375 : decode cX8_gives 375 = .ok (.iinc 4 (-1), 3) := by decide +kernel
theorem dX8_gives_378 : decode cX8_gives 378 = .ok (.goto (-115), 3) := by decide +kernel
theorem dX8_gives_381 : decode cX8_gives 381 = .ok (.iconst 0, 1) := by decide +kernel
theorem dX8_gives_382 : decode cX8_gives 382 = .ok (.istore 9, 2) := by decide +kernel
theorem dX8_gives_384 : decode cX8_gives 384 = .ok (.iconst 0, 1) := by decide +kernel
theorem dX8_gives_385 : decode cX8_gives 385 = .ok (.istore 10, 2) := by decide +kernel
theorem dX8_gives_387 : decode cX8_gives 387 = .ok (.iload 10, 2) := by decide +kernel
theorem dX8_gives_389 : decode cX8_gives 389 = .ok (.iload 5, 2) := by decide +kernel
theorem dX8_gives_391 : decode cX8_gives 391 = .ok (.if_icmp .ge 26, 3) := by decide +kernel
theorem dX8_gives_394 : decode cX8_gives 394 = .ok (.iload 9, 2) := by decide +kernel
theorem dX8_gives_396 : decode cX8_gives 396 = .ok (.aload_n 0, 1) := by decide +kernel
theorem dX8_gives_397 : decode cX8_gives 397 = .ok (.getfield 94, 3) := by decide +kernel
theorem dX8_gives_400 : decode cX8_gives 400 = .ok (.aload_n 0, 1) := by decide +kernel
theorem dX8_gives_401 : decode cX8_gives 401 = .ok (.getfield 91, 3) := by decide +kernel
theorem dX8_gives_404 : decode cX8_gives 404 = .ok (.iload 10, 2) := by decide +kernel
theorem dX8_gives_406 : decode cX8_gives 406 = .ok (.iaload, 1) := by decide +kernel
theorem dX8_gives_407 : decode cX8_gives 407 = .ok (.iaload, 1) := by decide +kernel
theorem dX8_gives_408 : decode cX8_gives 408 = .ok (.iadd, 1) := by decide +kernel
theorem dX8_gives_409 : decode cX8_gives 409 = .ok (.istore 9, 2) := by decide +kernel
theorem dX8_gives_411 : decode cX8_gives 411 = .ok (.iinc 10 1, 3) := by decide +kernel
theorem dX8_gives_414 : decode cX8_gives 414 = .ok (.goto (-27), 3) := by decide +kernel
theorem dX8_gives_417 : decode cX8_gives 417 = .ok (.iload 9, 2) := by decide +kernel
theorem dX8_gives_419 : decode cX8_gives 419 = .ok (.ireturn, 1) := by decide +kernel
set_option maxRecDepth 20000 in
theorem ggX8_flows_X8_gives : GoodIn wsX8_flows wsX8_gives := goodIn_r _ [32, 33, 3, 4, 5, 6, 34, 35, 36, 37, 10, 38, 39, 11, 40, 41, 42, 31, 43, 44, 45, 46, 47, 48, 49, 8, 9, 50, 51, 52, 53, 54, 55, 56, 57, 58, 59, 60, 61, 67, 68, 69, 70, 71, 72, 73, 74, 75, 76, 77, 78, 79, 80, 81, 82, 83, 84, 85, 86, 87, 88, 89, 90, 91, 92, 93, 94, 95, 96, 97, 98, 99, 100, 101, 102, 103, 104, 105, 106, 107, 108, 109, 110, 111, 112, 113] (by decide +kernel) (by decide +kernel)
set_option maxRecDepth 20000 in
theorem gX8_flows_X8_gives : GoodIn wsX8_flows (wsV RX8 213 RX8 yX8_gives wsX8_gives) := goodIn_app (goodIn_of _ (by decide +kernel)) ggX8_flows_X8_gives
set_option maxRecDepth 20000 in
theorem ggX8_flows_X8_room : GoodIn wsX8_flows wsX8_room := goodIn_r _ [65, 33, 66, 67, 68, 69, 70, 71, 72, 73, 74, 75, 76, 77, 78, 79, 80, 81, 82, 83, 84, 85, 86, 87, 88, 89, 90, 91, 92, 93, 94, 95, 96, 97, 98, 99, 100, 101, 102, 103, 104, 105, 106, 107, 108, 109, 110, 111, 112, 113] (by decide +kernel) (by decide +kernel)
set_option maxRecDepth 20000 in
theorem gX8_flows_X8_room : GoodIn wsX8_flows (wsV RX8 132 RX8 yX8_room wsX8_room) := goodIn_app (goodIn_of _ (by decide +kernel)) ggX8_flows_X8_room
set_option maxRecDepth 20000 in
theorem ggX8_flows_X8_one : GoodIn wsX8_flows wsX8_one := goodIn_r _ [57] (by decide +kernel) (by decide +kernel)
set_option maxRecDepth 20000 in
theorem gX8_flows_X8_one : GoodIn wsX8_flows (va_wsS RX8 198 yX8_one wsX8_one) := goodIn_app (goodIn_of _ (by decide +kernel)) ggX8_flows_X8_one
theorem dX8_flows_0 : decode cX8_flows 0 = .ok (.iconst 0, 1) := by decide +kernel
theorem dX8_flows_1 : decode cX8_flows 1 = .ok (.istore 6, 2) := by decide +kernel
theorem dX8_flows_3 : decode cX8_flows 3 = .ok (.iconst 0, 1) := by decide +kernel
theorem dX8_flows_4 : decode cX8_flows 4 = .ok (.istore 7, 2) := by decide +kernel
theorem dX8_flows_6 : decode cX8_flows 6 = .ok (.iconst 0, 1) := by decide +kernel
theorem dX8_flows_7 : decode cX8_flows 7 = .ok (.istore 8, 2) := by decide +kernel
theorem dX8_flows_9 : decode cX8_flows 9 = .ok (.iconst 0, 1) := by decide +kernel
theorem dX8_flows_10 : decode cX8_flows 10 = .ok (.istore 9, 2) := by decide +kernel
theorem dX8_flows_12 : decode cX8_flows 12 = .ok (.iload 9, 2) := by decide +kernel
theorem dX8_flows_14 : decode cX8_flows 14 = .ok (.aload_n 0, 1) := by decide +kernel
theorem dX8_flows_15 : decode cX8_flows 15 = .ok (.getfield 118, 3) := by decide +kernel
theorem dX8_flows_18 : decode cX8_flows 18 = .ok (.if_icmp .ge 471, 3) := by decide +kernel
theorem dX8_flows_21 : decode cX8_flows 21 = .ok (.aload_n 1, 1) := by decide +kernel
theorem dX8_flows_22 : decode cX8_flows 22 = .ok (.iload 9, 2) := by decide +kernel
theorem dX8_flows_24 : decode cX8_flows 24 = .ok (.iaload, 1) := by decide +kernel
theorem dX8_flows_25 : decode cX8_flows 25 = .ok (.iload 4, 2) := by decide +kernel
theorem dX8_flows_27 : decode cX8_flows 27 = .ok (.aload_n 0, 1) := by decide +kernel
theorem dX8_flows_28 : decode cX8_flows 28 = .ok (.getfield 7, 3) := by decide +kernel
theorem dX8_flows_31 : decode cX8_flows 31 = .ok (.iload 9, 2) := by decide +kernel
theorem dX8_flows_33 : decode cX8_flows 33 = .ok (.iaload, 1) := by decide +kernel
theorem dX8_flows_34 : decode cX8_flows 34 = .ok (.imul, 1) := by decide +kernel
theorem dX8_flows_35 : decode cX8_flows 35 = .ok (.iadd, 1) := by decide +kernel
theorem dX8_flows_36 : decode cX8_flows 36 = .ok (.iload 6, 2) := by decide +kernel
theorem dX8_flows_38 : decode cX8_flows 38 = .ok (.iadd, 1) := by decide +kernel
theorem dX8_flows_39 : decode cX8_flows 39 = .ok (.istore 10, 2) := by decide +kernel
theorem dX8_flows_41 : decode cX8_flows 41 = .ok (.iload 10, 2) := by decide +kernel
theorem dX8_flows_43 : decode cX8_flows 43 = .ok (.bipush 50, 2) := by decide +kernel
theorem dX8_flows_45 : decode cX8_flows 45 = .ok (.idiv, 1) := by decide +kernel
theorem dX8_flows_46 : decode cX8_flows 46 = .ok (.istore 11, 2) := by decide +kernel
theorem dX8_flows_48 : decode cX8_flows 48 = .ok (.iload 10, 2) := by decide +kernel
theorem dX8_flows_50 : decode cX8_flows 50 = .ok (.iload 11, 2) := by decide +kernel
theorem dX8_flows_52 : decode cX8_flows 52 = .ok (.isub, 1) := by decide +kernel
theorem dX8_flows_53 : decode cX8_flows 53 = .ok (.istore 10, 2) := by decide +kernel
theorem dX8_flows_55 : decode cX8_flows 55 = .ok (.aload_n 0, 1) := by decide +kernel
theorem dX8_flows_56 : decode cX8_flows 56 = .ok (.iload 9, 2) := by decide +kernel
theorem dX8_flows_58 : decode cX8_flows 58 = .ok (.iload 10, 2) := by decide +kernel
theorem dX8_flows_60 : decode cX8_flows 60 = .ok (.aload_n 3, 1) := by decide +kernel
theorem dX8_flows_61 : decode cX8_flows 61 = .ok (.iload 9, 2) := by decide +kernel
theorem dX8_flows_63 : decode cX8_flows 63 = .ok (.iaload, 1) := by decide +kernel
theorem dX8_flows_64 : decode cX8_flows 64 = .ok (.invokevirtual 213, 3) := by decide +kernel
theorem dX8_flows_67 : decode cX8_flows 67 = .ok (.istore 12, 2) := by decide +kernel
theorem dX8_flows_69 : decode cX8_flows 69 = .ok (.iload 10, 2) := by decide +kernel
theorem dX8_flows_71 : decode cX8_flows 71 = .ok (.iload 12, 2) := by decide +kernel
theorem dX8_flows_73 : decode cX8_flows 73 = .ok (.isub, 1) := by decide +kernel
theorem dX8_flows_74 : decode cX8_flows 74 = .ok (.istore 10, 2) := by decide +kernel
theorem dX8_flows_76 : decode cX8_flows 76 = .ok (.iconst 0, 1) := by decide +kernel
theorem dX8_flows_77 : decode cX8_flows 77 = .ok (.iload 10, 2) := by decide +kernel
theorem dX8_flows_79 : decode cX8_flows 79 = .ok (.aload_n 0, 1) := by decide +kernel
theorem dX8_flows_80 : decode cX8_flows 80 = .ok (.iload 9, 2) := by decide +kernel
theorem dX8_flows_82 : decode cX8_flows 82 = .ok (.aload_n 2, 1) := by decide +kernel
theorem dX8_flows_83 : decode cX8_flows 83 = .ok (.iload 9, 2) := by decide +kernel
theorem dX8_flows_85 : decode cX8_flows 85 = .ok (.baload, 1) := by decide +kernel
theorem dX8_flows_86 : decode cX8_flows 86 = .ok (.invokevirtual 132, 3) := by decide +kernel
theorem dX8_flows_89 : decode cX8_flows 89 = .ok (.isub, 1) := by decide +kernel
theorem dX8_flows_90 : decode cX8_flows 90 = .ok (.invokestatic 115, 3) := by decide +kernel
theorem dX8_flows_93 : decode cX8_flows 93 = .ok (.istore 13, 2) := by decide +kernel
theorem dX8_flows_95 : decode cX8_flows 95 = .ok (.iload 10, 2) := by decide +kernel
theorem dX8_flows_97 : decode cX8_flows 97 = .ok (.iload 13, 2) := by decide +kernel
theorem dX8_flows_99 : decode cX8_flows 99 = .ok (.isub, 1) := by decide +kernel
theorem dX8_flows_100 : decode cX8_flows 100 = .ok (.istore 10, 2) := by decide +kernel
theorem dX8_flows_102 : decode cX8_flows 102 = .ok (.aload_n 2, 1) := by decide +kernel
theorem dX8_flows_103 : decode cX8_flows 103 = .ok (.iload 9, 2) := by decide +kernel
theorem dX8_flows_105 : decode cX8_flows 105 = .ok (.baload, 1) := by decide +kernel
theorem dX8_flows_106 : decode cX8_flows 106 = .ok (.ifCond .ne 19, 3) := by decide +kernel
theorem dX8_flows_109 : decode cX8_flows 109 = .ok (.iload 13, 2) := by decide +kernel
theorem dX8_flows_111 : decode cX8_flows 111 = .ok (.aload_n 0, 1) := by decide +kernel
theorem dX8_flows_112 : decode cX8_flows 112 = .ok (.getfield 16, 3) := by decide +kernel
theorem dX8_flows_115 : decode cX8_flows 115 = .ok (.iload 9, 2) := by decide +kernel
theorem dX8_flows_117 : decode cX8_flows 117 = .ok (.iaload, 1) := by decide +kernel
theorem dX8_flows_118 : decode cX8_flows 118 = .ok (.if_icmp .le 7, 3) := by decide +kernel
theorem dX8_flows_121 : decode cX8_flows 121 = .ok (.iconst 1, 1) := by decide +kernel
theorem dX8_flows_122 : decode cX8_flows 122 = .ok (.goto 4, 3) := by decide +kernel
theorem dX8_flows_125 : decode cX8_flows 125 = .ok (.iconst 0, 1) := by decide +kernel
theorem dX8_flows_126 : decode cX8_flows 126 = .ok (.istore 14, 2) := by decide +kernel
theorem dX8_flows_128 : decode cX8_flows 128 = .ok (.iload 14, 2) := by decide +kernel
theorem dX8_flows_130 : decode cX8_flows 130 = .ok (.ifCond .eq 18, 3) := by decide +kernel
theorem dX8_flows_133 : decode cX8_flows 133 = .ok (.aload_n 2, 1) := by decide +kernel
theorem dX8_flows_134 : decode cX8_flows 134 = .ok (.iload 9, 2) := by decide +kernel
theorem dX8_flows_136 : decode cX8_flows 136 = .ok (.iconst 1, 1) := by decide +kernel
theorem dX8_flows_137 : decode cX8_flows 137 = .ok (.bastore, 1) := by decide +kernel
theorem dX8_flows_138 : decode cX8_flows 138 = .ok (.iload 13, 2) := by decide +kernel
theorem dX8_flows_140 : decode cX8_flows 140 = .ok (.iload 10, 2) := by decide +kernel
theorem dX8_flows_142 : decode cX8_flows 142 = .ok (.iadd, 1) := by decide +kernel
theorem dX8_flows_143 : decode cX8_flows 143 = .ok (.istore 13, 2) := by decide +kernel
theorem dX8_flows_145 : decode cX8_flows 145 = .ok (.iconst 0, 1) := by decide +kernel
theorem dX8_flows_146 : decode cX8_flows 146 = .ok (.istore 10, 2) := by decide +kernel
theorem dX8_flows_148 : decode cX8_flows 148 = .ok (.aload_n 1, 1) := by decide +kernel
theorem dX8_flows_149 : decode cX8_flows 149 = .ok (.iload 9, 2) := by decide +kernel
theorem dX8_flows_151 : decode cX8_flows 151 = .ok (.iload 10, 2) := by decide +kernel
theorem dX8_flows_153 : decode cX8_flows 153 = .ok (.iastore, 1) := by decide +kernel
theorem dX8_flows_154 : decode cX8_flows 154 = .ok (.iload 12, 2) := by decide +kernel
theorem dX8_flows_156 : decode cX8_flows 156 = .ok (.iconst 2, 1) := by decide +kernel
theorem dX8_flows_157 : decode cX8_flows 157 = .ok (.idiv, 1) := by decide +kernel
theorem dX8_flows_158 : decode cX8_flows 158 = .ok (.iload 13, 2) := by decide +kernel
theorem dX8_flows_160 : decode cX8_flows 160 = .ok (.iadd, 1) := by decide +kernel
theorem dX8_flows_161 : decode cX8_flows 161 = .ok (.istore 6, 2) := by decide +kernel
theorem dX8_flows_163 : decode cX8_flows 163 = .ok (.iconst 0, 1) := by decide +kernel
theorem dX8_flows_164 : decode cX8_flows 164 = .ok (.istore 15, 2) := by decide +kernel
theorem dX8_flows_166 : decode cX8_flows 166 = .ok (.iload 15, 2) := by decide +kernel
theorem dX8_flows_168 : decode cX8_flows 168 = .ok (.aload_n 0, 1) := by decide +kernel
theorem dX8_flows_169 : decode cX8_flows 169 = .ok (.getfield 139, 3) := by decide +kernel
theorem dX8_flows_172 : decode cX8_flows 172 = .ok (.if_icmp .ge 50, 3) := by decide +kernel
theorem dX8_flows_175 : decode cX8_flows 175 = .ok (.aload_n 0, 1) := by decide +kernel
theorem dX8_flows_176 : decode cX8_flows 176 = .ok (.getfield 41, 3) := by decide +kernel
theorem dX8_flows_179 : decode cX8_flows 179 = .ok (.iload 15, 2) := by decide +kernel
theorem dX8_flows_181 : decode cX8_flows 181 = .ok (.iaload, 1) := by decide +kernel
theorem dX8_flows_182 : decode cX8_flows 182 = .ok (.iload 9, 2) := by decide +kernel
theorem dX8_flows_184 : decode cX8_flows 184 = .ok (.if_icmp .ne 32, 3) := by decide +kernel
theorem dX8_flows_187 : decode cX8_flows 187 = .ok (.aload_n 0, 1) := by decide +kernel
theorem dX8_flows_188 : decode cX8_flows 188 = .ok (.getfield 94, 3) := by decide +kernel
theorem dX8_flows_191 : decode cX8_flows 191 = .ok (.iload 15, 2) := by decide +kernel
theorem dX8_flows_193 : decode cX8_flows 193 = .ok (.iaload, 1) := by decide +kernel
theorem dX8_flows_194 : decode cX8_flows 194 = .ok (.aload_n 0, 1) := by decide +kernel
theorem dX8_flows_195 : decode cX8_flows 195 = .ok (.getfield 47, 3) := by decide +kernel
theorem dX8_flows_198 : decode cX8_flows 198 = .ok (.iload 15, 2) := by decide +kernel
theorem dX8_flows_200 : decode cX8_flows 200 = .ok (.iaload, 1) := by decide +kernel
theorem dX8_flows_201 : decode cX8_flows 201 = .ok (.if_icmp .ne 15, 3) := by decide +kernel
theorem dX8_flows_204 : decode cX8_flows 204 = .ok (.iload 7, 2) := by decide +kernel
theorem dX8_flows_206 : decode cX8_flows 206 = .ok (.aload_n 0, 1) := by decide +kernel
theorem dX8_flows_207 : decode cX8_flows 207 = .ok (.getfield 47, 3) := by decide +kernel
theorem dX8_flows_210 : decode cX8_flows 210 = .ok (.iload 15, 2) := by decide +kernel
theorem dX8_flows_212 : decode cX8_flows 212 = .ok (.iaload, 1) := by decide +kernel
theorem dX8_flows_213 : decode cX8_flows 213 = .ok (.iadd, 1) := by decide +kernel
theorem dX8_flows_214 : decode cX8_flows 214 = .ok (.istore 7, 2) := by decide +kernel
theorem dX8_flows_216 : decode cX8_flows 216 = .ok (.iinc 15 1, 3) := by decide +kernel
theorem dX8_flows_219 : decode cX8_flows 219 = .ok (.goto (-53), 3) := by decide +kernel
theorem dX8_flows_222 : decode cX8_flows 222 = .ok (.iload 5, 2) := by decide +kernel
theorem dX8_flows_224 : decode cX8_flows 224 = .ok (.ifCond .ne 6, 3) := by decide +kernel
theorem dX8_flows_227 : decode cX8_flows 227 = .ok (.goto 256, 3) := by decide +kernel
theorem dX8_flows_230 : decode cX8_flows 230 = .ok (.aload_n 0, 1) := by decide +kernel
theorem dX8_flows_231 : decode cX8_flows 231 = .ok (.getfield 28, 3) := by decide +kernel
theorem dX8_flows_234 : decode cX8_flows 234 = .ok (.iload 9, 2) := by decide +kernel
theorem dX8_flows_236 : decode cX8_flows 236 = .ok (.iload 12, 2) := by decide +kernel
theorem dX8_flows_238 : decode cX8_flows 238 = .ok (.iastore, 1) := by decide +kernel
theorem dX8_flows_239 : decode cX8_flows 239 = .ok (.aload_n 0, 1) := by decide +kernel
theorem dX8_flows_240 : decode cX8_flows 240 = .ok (.getfield 31, 3) := by decide +kernel
theorem dX8_flows_243 : decode cX8_flows 243 = .ok (.iload 9, 2) := by decide +kernel
theorem dX8_flows_245 : decode cX8_flows 245 = .ok (.iload 13, 2) := by decide +kernel
theorem dX8_flows_247 : decode cX8_flows 247 = .ok (.iastore, 1) := by decide +kernel
theorem dX8_flows_248 : decode cX8_flows 248 = .ok (.aload_n 0, 1) := by decide +kernel
theorem dX8_flows_249 : decode cX8_flows 249 = .ok (.dup, 1) := by decide +kernel
theorem dX8_flows_250 : decode cX8_flows 250 = .ok (.getfield 217, 3) := by decide +kernel
theorem dX8_flows_253 : decode cX8_flows 253 = .ok (.iload 11, 2) := by decide +kernel
theorem dX8_flows_255 : decode cX8_flows 255 = .ok (.iadd, 1) := by decide +kernel
theorem dX8_flows_256 : decode cX8_flows 256 = .ok (.putfield 217, 3) := by decide +kernel
theorem dX8_flows_259 : decode cX8_flows 259 = .ok (.aload_n 0, 1) := by decide +kernel
theorem dX8_flows_260 : decode cX8_flows 260 = .ok (.dup, 1) := by decide +kernel
theorem dX8_flows_261 : decode cX8_flows 261 = .ok (.getfield 220, 3) := by decide +kernel
theorem dX8_flows_264 : decode cX8_flows 264 = .ok (.iload 12, 2) := by decide +kernel
theorem dX8_flows_266 : decode cX8_flows 266 = .ok (.iload 12, 2) := by decide +kernel
theorem dX8_flows_268 : decode cX8_flows 268 = .ok (.iconst 2, 1) := by decide +kernel
theorem dX8_flows_269 : decode cX8_flows 269 = .ok (.idiv, 1) := by decide +kernel
theorem dX8_flows_270 : decode cX8_flows 270 = .ok (.isub, 1) := by decide +kernel
theorem dX8_flows_271 : decode cX8_flows 271 = .ok (.iadd, 1) := by decide +kernel
theorem dX8_flows_272 : decode cX8_flows 272 = .ok (.putfield 220, 3) := by decide +kernel
theorem dX8_flows_275 : decode cX8_flows 275 = .ok (.aload_n 0, 1) := by decide +kernel
theorem dX8_flows_276 : decode cX8_flows 276 = .ok (.dup, 1) := by decide +kernel
theorem dX8_flows_277 : decode cX8_flows 277 = .ok (.getfield 223, 3) := by decide +kernel
theorem dX8_flows_280 : decode cX8_flows 280 = .ok (.iload 4, 2) := by decide +kernel
theorem dX8_flows_282 : decode cX8_flows 282 = .ok (.aload_n 0, 1) := by decide +kernel
theorem dX8_flows_283 : decode cX8_flows 283 = .ok (.getfield 7, 3) := by decide +kernel
theorem dX8_flows_286 : decode cX8_flows 286 = .ok (.iload 9, 2) := by decide +kernel
theorem dX8_flows_288 : decode cX8_flows 288 = .ok (.iaload, 1) := by decide +kernel
theorem dX8_flows_289 : decode cX8_flows 289 = .ok (.imul, 1) := by decide +kernel
theorem dX8_flows_290 : decode cX8_flows 290 = .ok (.iadd, 1) := by decide +kernel
theorem dX8_flows_291 : decode cX8_flows 291 = .ok (.putfield 223, 3) := by decide +kernel
theorem dX8_flows_294 : decode cX8_flows 294 = .ok (.iconst 0, 1) := by decide +kernel
theorem dX8_flows_295 : decode cX8_flows 295 = .ok (.istore 15, 2) := by decide +kernel
theorem dX8_flows_297 : decode cX8_flows 297 = .ok (.iload 15, 2) := by decide +kernel
theorem dX8_flows_299 : decode cX8_flows 299 = .ok (.aload_n 0, 1) := by decide +kernel
theorem dX8_flows_300 : decode cX8_flows 300 = .ok (.getfield 139, 3) := by decide +kernel
theorem dX8_flows_303 : decode cX8_flows 303 = .ok (.if_icmp .ge 133, 3) := by decide +kernel
theorem dX8_flows_306 : decode cX8_flows 306 = .ok (.aload_n 0, 1) := by decide +kernel
theorem dX8_flows_307 : decode cX8_flows 307 = .ok (.getfield 41, 3) := by decide +kernel
theorem dX8_flows_310 : decode cX8_flows 310 = .ok (.iload 15, 2) := by decide +kernel
theorem dX8_flows_312 : decode cX8_flows 312 = .ok (.iaload, 1) := by decide +kernel
theorem dX8_flows_313 : decode cX8_flows 313 = .ok (.iload 9, 2) := by decide +kernel
theorem dX8_flows_315 : decode cX8_flows 315 = .ok (.if_icmp .eq 6, 3) := by decide +kernel
theorem dX8_flows_318 : decode cX8_flows 318 = .ok (.goto 112, 3) := by decide +kernel
theorem dX8_flows_321 : decode cX8_flows 321 = .ok (.aload_n 0, 1) := by decide +kernel
theorem dX8_flows_322 : decode cX8_flows 322 = .ok (.getfield 59, 3) := by decide +kernel
theorem dX8_flows_325 : decode cX8_flows 325 = .ok (.iload 15, 2) := by decide +kernel
theorem dX8_flows_327 : decode cX8_flows 327 = .ok (.aload_n 0, 1) := by decide +kernel
theorem dX8_flows_328 : decode cX8_flows 328 = .ok (.getfield 94, 3) := by decide +kernel
theorem dX8_flows_331 : decode cX8_flows 331 = .ok (.iload 15, 2) := by decide +kernel
theorem dX8_flows_333 : decode cX8_flows 333 = .ok (.iaload, 1) := by decide +kernel
theorem dX8_flows_334 : decode cX8_flows 334 = .ok (.iastore, 1) := by decide +kernel
theorem dX8_flows_335 : decode cX8_flows 335 = .ok (.aload_n 0, 1) := by decide +kernel
theorem dX8_flows_336 : decode cX8_flows 336 = .ok (.getfield 56, 3) := by decide +kernel
theorem dX8_flows_339 : decode cX8_flows 339 = .ok (.iload 15, 2) := by decide +kernel
theorem dX8_flows_341 : decode cX8_flows 341 = .ok (.dup2, 1) := by decide +kernel
theorem dX8_flows_342 : decode cX8_flows 342 = .ok (.iaload, 1) := by decide +kernel
theorem dX8_flows_343 : decode cX8_flows 343 = .ok (.aload_n 0, 1) := by decide +kernel
theorem dX8_flows_344 : decode cX8_flows 344 = .ok (.getfield 94, 3) := by decide +kernel
theorem dX8_flows_347 : decode cX8_flows 347 = .ok (.iload 15, 2) := by decide +kernel
theorem dX8_flows_349 : decode cX8_flows 349 = .ok (.iaload, 1) := by decide +kernel
theorem dX8_flows_350 : decode cX8_flows 350 = .ok (.iadd, 1) := by decide +kernel
theorem dX8_flows_351 : decode cX8_flows 351 = .ok (.iastore, 1) := by decide +kernel
theorem dX8_flows_352 : decode cX8_flows 352 = .ok (.aload_n 0, 1) := by decide +kernel
theorem dX8_flows_353 : decode cX8_flows 353 = .ok (.getfield 53, 3) := by decide +kernel
theorem dX8_flows_356 : decode cX8_flows 356 = .ok (.iload 15, 2) := by decide +kernel
theorem dX8_flows_358 : decode cX8_flows 358 = .ok (.dup2, 1) := by decide +kernel
theorem dX8_flows_359 : decode cX8_flows 359 = .ok (.iaload, 1) := by decide +kernel
theorem dX8_flows_360 : decode cX8_flows 360 = .ok (.aload_n 0, 1) := by decide +kernel
theorem dX8_flows_361 : decode cX8_flows 361 = .ok (.getfield 94, 3) := by decide +kernel
theorem dX8_flows_364 : decode cX8_flows 364 = .ok (.iload 15, 2) := by decide +kernel
theorem dX8_flows_366 : decode cX8_flows 366 = .ok (.iaload, 1) := by decide +kernel
theorem dX8_flows_367 : decode cX8_flows 367 = .ok (.aload_n 0, 1) := by decide +kernel
theorem dX8_flows_368 : decode cX8_flows 368 = .ok (.getfield 47, 3) := by decide +kernel
theorem dX8_flows_371 : decode cX8_flows 371 = .ok (.iload 15, 2) := by decide +kernel
theorem dX8_flows_373 : decode cX8_flows 373 = .ok (.iaload, 1) := by decide +kernel
theorem dX8_flows_374 : decode cX8_flows 374 = .ok (.if_icmp .ne 7, 3) := by decide +kernel
theorem dX8_flows_377 : decode cX8_flows 377 = .ok (.iconst 1, 1) := by decide +kernel
theorem dX8_flows_378 : decode cX8_flows 378 = .ok (.goto 4, 3) := by decide +kernel
theorem dX8_flows_381 : decode cX8_flows 381 = .ok (.iconst 0, 1) := by decide +kernel
theorem dX8_flows_382 : decode cX8_flows 382 = .ok (.invokestatic 198, 3) := by decide +kernel
theorem dX8_flows_385 : decode cX8_flows 385 = .ok (.iadd, 1) := by decide +kernel
theorem dX8_flows_386 : decode cX8_flows 386 = .ok (.iastore, 1) := by decide +kernel
theorem dX8_flows_387 : decode cX8_flows 387 = .ok (.aload_n 0, 1) := by decide +kernel
theorem dX8_flows_388 : decode cX8_flows 388 = .ok (.getfield 65, 3) := by decide +kernel
theorem dX8_flows_391 : decode cX8_flows 391 = .ok (.aload_n 0, 1) := by decide +kernel
theorem dX8_flows_392 : decode cX8_flows 392 = .ok (.getfield 50, 3) := by decide +kernel
theorem dX8_flows_395 : decode cX8_flows 395 = .ok (.iload 15, 2) := by decide +kernel
theorem dX8_flows_397 : decode cX8_flows 397 = .ok (.iaload, 1) := by decide +kernel
theorem dX8_flows_398 : decode cX8_flows 398 = .ok (.dup2, 1) := by decide +kernel
theorem dX8_flows_399 : decode cX8_flows 399 = .ok (.iaload, 1) := by decide +kernel
theorem dX8_flows_400 : decode cX8_flows 400 = .ok (.aload_n 0, 1) := by decide +kernel
theorem dX8_flows_401 : decode cX8_flows 401 = .ok (.getfield 94, 3) := by decide +kernel
theorem dX8_flows_404 : decode cX8_flows 404 = .ok (.iload 15, 2) := by decide +kernel
theorem dX8_flows_406 : decode cX8_flows 406 = .ok (.iaload, 1) := by decide +kernel
theorem dX8_flows_407 : decode cX8_flows 407 = .ok (.aload_n 0, 1) := by decide +kernel
theorem dX8_flows_408 : decode cX8_flows 408 = .ok (.getfield 47, 3) := by decide +kernel
theorem dX8_flows_411 : decode cX8_flows 411 = .ok (.iload 15, 2) := by decide +kernel
theorem dX8_flows_413 : decode cX8_flows 413 = .ok (.iaload, 1) := by decide +kernel
theorem dX8_flows_414 : decode cX8_flows 414 = .ok (.if_icmp .ne 13, 3) := by decide +kernel
theorem dX8_flows_417 : decode cX8_flows 417 = .ok (.aload_n 0, 1) := by decide +kernel
theorem dX8_flows_418 : decode cX8_flows 418 = .ok (.getfield 47, 3) := by decide +kernel
theorem dX8_flows_421 : decode cX8_flows 421 = .ok (.iload 15, 2) := by decide +kernel
theorem dX8_flows_423 : decode cX8_flows 423 = .ok (.iaload, 1) := by decide +kernel
theorem dX8_flows_424 : decode cX8_flows 424 = .ok (.goto 4, 3) := by decide +kernel
theorem dX8_flows_427 : decode cX8_flows 427 = .ok (.iconst 0, 1) := by decide +kernel
theorem dX8_flows_428 : decode cX8_flows 428 = .ok (.iadd, 1) := by decide +kernel
theorem dX8_flows_429 : decode cX8_flows 429 = .ok (.iastore, 1) := by decide +kernel
theorem dX8_flows_430 : decode cX8_flows 430 = .ok (.iinc 15 1, 3) := by decide +kernel
theorem dX8_flows_433 : decode cX8_flows 433 = .ok (.goto (-136), 3) := by decide +kernel
theorem dX8_flows_436 : decode cX8_flows 436 = .ok (.iload 14, 2) := by decide +kernel
theorem dX8_flows_438 : decode cX8_flows 438 = .ok (.ifCond .ne 6, 3) := by decide +kernel
theorem dX8_flows_441 : decode cX8_flows 441 = .ok (.goto 42, 3) := by decide +kernel
theorem dX8_flows_444 : decode cX8_flows 444 = .ok (.aload_n 0, 1) := by decide +kernel
theorem dX8_flows_445 : decode cX8_flows 445 = .ok (.getfield 34, 3) := by decide +kernel
theorem dX8_flows_448 : decode cX8_flows 448 = .ok (.iload 9, 2) := by decide +kernel
theorem dX8_flows_450 : decode cX8_flows 450 = .ok (.aload_n 0, 1) := by decide +kernel
theorem dX8_flows_451 : decode cX8_flows 451 = .ok (.getfield 129, 3) := by decide +kernel
theorem dX8_flows_454 : decode cX8_flows 454 = .ok (.iastore, 1) := by decide +kernel
theorem dX8_flows_455 : decode cX8_flows 455 = .ok (.iload 8, 2) := by decide +kernel
theorem dX8_flows_457 : decode cX8_flows 457 = .ok (.ifCond .ne 9, 3) := by decide +kernel
theorem dX8_flows_460 : decode cX8_flows 460 = .ok (.aload_n 0, 1) := by decide +kernel
theorem dX8_flows_461 : decode cX8_flows 461 = .ok (.iload 9, 2) := by decide +kernel
theorem dX8_flows_463 : decode cX8_flows 463 = .ok (.putfield 68, 3) := by decide +kernel
theorem dX8_flows_466 : decode cX8_flows 466 = .ok (.iinc 8 1, 3) := by decide +kernel
theorem dX8_flows_469 : decode cX8_flows 469 = .ok (.aload_n 0, 1) := by decide +kernel
theorem dX8_flows_470 : decode cX8_flows 470 = .ok (.iload 8, 2) := by decide +kernel
theorem dX8_flows_472 : decode cX8_flows 472 = .ok (.putfield 72, 3) := by decide +kernel
theorem dX8_flows_475 : decode cX8_flows 475 = .ok (.aload_n 0, 1) := by decide +kernel
theorem dX8_flows_476 : decode cX8_flows 476 = .ok (.aload_n 0, 1) := by decide +kernel
theorem dX8_flows_477 : decode cX8_flows 477 = .ok (.getfield 129, 3) := by decide +kernel
theorem dX8_flows_480 : decode cX8_flows 480 = .ok (.putfield 75, 3) := by decide +kernel
theorem dX8_flows_483 : decode cX8_flows 483 = .ok (.iinc 9 1, 3) := by decide +kernel
theorem dX8_flows_486 : decode cX8_flows 486 = .ok (.goto (-474), 3) := by decide +kernel
theorem dX8_flows_489 : decode cX8_flows 489 = .ok (.iload 5, 2) := by decide +kernel
theorem dX8_flows_491 : decode cX8_flows 491 = .ok (.ifCond .eq 14, 3) := by decide +kernel
theorem dX8_flows_494 : decode cX8_flows 494 = .ok (.aload_n 0, 1) := by decide +kernel
theorem dX8_flows_495 : decode cX8_flows 495 = .ok (.dup, 1) := by decide +kernel
theorem dX8_flows_496 : decode cX8_flows 496 = .ok (.getfield 226, 3) := by decide +kernel
theorem dX8_flows_499 : decode cX8_flows 499 = .ok (.iload 6, 2) := by decide +kernel
theorem dX8_flows_501 : decode cX8_flows 501 = .ok (.iadd, 1) := by decide +kernel
theorem dX8_flows_502 : decode cX8_flows 502 = .ok (.putfield 226, 3) := by decide +kernel
theorem dX8_flows_505 : decode cX8_flows 505 = .ok (.iload 7, 2) := by decide +kernel
theorem dX8_flows_507 : decode cX8_flows 507 = .ok (.ireturn, 1) := by decide +kernel
set_option maxRecDepth 20000 in
theorem ggX8_day_X8_isIn : GoodIn wsX8_day wsX8_isIn := goodIn_r _ [16] (by decide +kernel) (by decide +kernel)
set_option maxRecDepth 20000 in
theorem gX8_day_X8_isIn : GoodIn wsX8_day (va_wsS RX8 121 yX8_isIn wsX8_isIn) := goodIn_app (goodIn_of _ (by decide +kernel)) ggX8_day_X8_isIn
set_option maxRecDepth 20000 in
theorem ggX8_day_X8_flows : GoodIn wsX8_day wsX8_flows := goodIn_r _ [20, 3, 21, 22, 23, 8, 24, 25, 26, 27, 28, 29, 30, 31, 32, 33, 34, 35, 36, 37, 38, 39, 40, 1, 41, 42, 43, 44, 45, 46, 47, 15, 48, 5, 6, 7, 9, 49, 50, 51, 52, 53, 54, 55, 56, 57, 58, 59, 60, 61, 62, 63, 64, 65, 66, 67, 68, 69, 70, 71, 72, 73, 74, 75, 76, 77, 4, 78, 79, 80, 81, 82, 83, 84, 85, 86, 87, 88, 89, 90, 91, 92, 93, 94, 95, 96, 97, 98, 99, 100, 101, 102, 103, 104, 105, 106, 107, 108, 109, 110, 111, 112, 113, 114, 115, 116, 117, 118, 119, 120, 121, 122, 123, 124] (by decide +kernel) (by decide +kernel)
set_option maxRecDepth 20000 in
theorem gX8_day_X8_flows : GoodIn wsX8_day (wsV RX8 232 RX8 yX8_flows wsX8_flows) := goodIn_app (goodIn_of _ (by decide +kernel)) ggX8_day_X8_flows
theorem dX8_day_0 : decode cX8_day 0 = .ok (.iload_n 1, 1) := by decide +kernel
theorem dX8_day_1 : decode cX8_day 1 = .ok (.iconst (-1), 1) := by decide +kernel
theorem dX8_day_2 : decode cX8_day 2 = .ok (.bipush 50, 2) := by decide +kernel
theorem dX8_day_4 : decode cX8_day 4 = .ok (.invokestatic 121, 3) := by decide +kernel
theorem dX8_day_7 : decode cX8_day 7 = .ok (.ifCond .eq 13, 3) := by decide +kernel
theorem dX8_day_10 : decode cX8_day 10 = .ok (.aload_n 0, 1) := by decide +kernel
theorem dX8_day_11 : decode cX8_day 11 = .ok (.getfield 129, 3) := by decide +kernel
theorem dX8_day_14 : decode cX8_day 14 = .ok (.sipush 1000, 3) := by decide +kernel
theorem dX8_day_17 : decode cX8_day 17 = .ok (.if_icmp .ne 5, 3) := by decide +kernel
theorem dX8_day_20 : decode cX8_day 20 = .ok (.iconst (-1), 1) := by decide +kernel
theorem dX8_day_21 : decode cX8_day 21 = .ok (.ireturn, 1) := by decide +kernel
theorem dX8_day_22 : decode cX8_day 22 = .ok (.iload_n 1, 1) := by decide +kernel
theorem dX8_day_23 : decode cX8_day 23 = .ok (.iconst (-1), 1) := by decide +kernel
theorem dX8_day_24 : decode cX8_day 24 = .ok (.if_icmp .eq 8, 3) := by decide +kernel
theorem dX8_day_27 : decode cX8_day 27 = .ok (.aload_n 0, 1) := by decide +kernel
theorem dX8_day_28 : decode cX8_day 28 = .ok (.iload_n 1, 1) := by decide +kernel
theorem dX8_day_29 : decode cX8_day 29 = .ok (.putfield 229, 3) := by decide +kernel
theorem dX8_day_32 : decode cX8_day 32 = .ok (.iconst 0, 1) := by decide +kernel
theorem dX8_day_33 : decode cX8_day 33 = .ok (.istore_n 2, 1) := by decide +kernel
theorem dX8_day_34 : decode cX8_day 34 = .ok (.iload_n 2, 1) := by decide +kernel
theorem dX8_day_35 : decode cX8_day 35 = .ok (.aload_n 0, 1) := by decide +kernel
theorem dX8_day_36 : decode cX8_day 36 = .ok (.getfield 118, 3) := by decide +kernel
theorem dX8_day_39 : decode cX8_day 39 = .ok (.if_icmp .ge 52, 3) := by decide +kernel
theorem dX8_day_42 : decode cX8_day 42 = .ok (.aload_n 0, 1) := by decide +kernel
theorem dX8_day_43 : decode cX8_day 43 = .ok (.getfield 129, 3) := by decide +kernel
theorem dX8_day_46 : decode cX8_day 46 = .ok (.iconst 1, 1) := by decide +kernel
theorem dX8_day_47 : decode cX8_day 47 = .ok (.iadd, 1) := by decide +kernel
theorem dX8_day_48 : decode cX8_day 48 = .ok (.bipush 100, 2) := by decide +kernel
theorem dX8_day_50 : decode cX8_day 50 = .ok (.irem, 1) := by decide +kernel
theorem dX8_day_51 : decode cX8_day 51 = .ok (.ifCond .ne 34, 3) := by decide +kernel
theorem dX8_day_54 : decode cX8_day 54 = .ok (.aload_n 0, 1) := by decide +kernel
theorem dX8_day_55 : decode cX8_day 55 = .ok (.getfield 25, 3) := by decide +kernel
theorem dX8_day_58 : decode cX8_day 58 = .ok (.iload_n 2, 1) := by decide +kernel
theorem dX8_day_59 : decode cX8_day 59 = .ok (.aload_n 0, 1) := by decide +kernel
theorem dX8_day_60 : decode cX8_day 60 = .ok (.getfield 13, 3) := by decide +kernel
theorem dX8_day_63 : decode cX8_day 63 = .ok (.iload_n 2, 1) := by decide +kernel
theorem dX8_day_64 : decode cX8_day 64 = .ok (.iaload, 1) := by decide +kernel
theorem dX8_day_65 : decode cX8_day 65 = .ok (.aload_n 0, 1) := by decide +kernel
theorem dX8_day_66 : decode cX8_day 66 = .ok (.getfield 25, 3) := by decide +kernel
theorem dX8_day_69 : decode cX8_day 69 = .ok (.iload_n 2, 1) := by decide +kernel
theorem dX8_day_70 : decode cX8_day 70 = .ok (.iaload, 1) := by decide +kernel
theorem dX8_day_71 : decode cX8_day 71 = .ok (.aload_n 0, 1) := by decide +kernel
theorem dX8_day_72 : decode cX8_day 72 = .ok (.getfield 13, 3) := by decide +kernel
theorem dX8_day_75 : decode cX8_day 75 = .ok (.iload_n 2, 1) := by decide +kernel
theorem dX8_day_76 : decode cX8_day 76 = .ok (.iaload, 1) := by decide +kernel
theorem dX8_day_77 : decode cX8_day 77 = .ok (.bipush 50, 2) := by decide +kernel
theorem dX8_day_79 : decode cX8_day 79 = .ok (.idiv, 1) := by decide +kernel
theorem dX8_day_80 : decode cX8_day 80 = .ok (.iadd, 1) := by decide +kernel
theorem dX8_day_81 : decode cX8_day 81 = .ok (.invokestatic 109, 3) := by decide +kernel
theorem dX8_day_84 : decode cX8_day 84 = .ok (.iastore, 1) := by decide +kernel
theorem dX8_day_85 : decode cX8_day 85 = .ok (.iinc 2 1, 3) := by decide +kernel
theorem dX8_day_88 : decode cX8_day 88 = .ok (.goto (-54), 3) := by decide +kernel
theorem dX8_day_91 : decode cX8_day 91 = .ok (.aload_n 0, 1) := by decide +kernel
theorem dX8_day_92 : decode cX8_day 92 = .ok (.aload_n 0, 1) := by decide +kernel
theorem dX8_day_93 : decode cX8_day 93 = .ok (.getfield 19, 3) := by decide +kernel
theorem dX8_day_96 : decode cX8_day 96 = .ok (.aload_n 0, 1) := by decide +kernel
theorem dX8_day_97 : decode cX8_day 97 = .ok (.getfield 37, 3) := by decide +kernel
theorem dX8_day_100 : decode cX8_day 100 = .ok (.aload_n 0, 1) := by decide +kernel
theorem dX8_day_101 : decode cX8_day 101 = .ok (.getfield 22, 3) := by decide +kernel
theorem dX8_day_104 : decode cX8_day 104 = .ok (.aload_n 0, 1) := by decide +kernel
theorem dX8_day_105 : decode cX8_day 105 = .ok (.getfield 229, 3) := by decide +kernel
theorem dX8_day_108 : decode cX8_day 108 = .ok (.iconst 1, 1) := by decide +kernel
theorem dX8_day_109 : decode cX8_day 109 = .ok (.invokevirtual 232, 3) := by decide +kernel
theorem dX8_day_112 : decode cX8_day 112 = .ok (.pop, 1) := by decide +kernel
theorem dX8_day_113 : decode cX8_day 113 = .ok (.aload_n 0, 1) := by decide +kernel
theorem dX8_day_114 : decode cX8_day 114 = .ok (.dup, 1) := by decide +kernel
theorem dX8_day_115 : decode cX8_day 115 = .ok (.getfield 129, 3) := by decide +kernel
theorem dX8_day_118 : decode cX8_day 118 = .ok (.iconst 1, 1) := by decide +kernel
theorem dX8_day_119 : decode cX8_day 119 = .ok (.iadd, 1) := by decide +kernel
theorem dX8_day_120 : decode cX8_day 120 = .ok (.putfield 129, 3) := by decide +kernel
theorem dX8_day_123 : decode cX8_day 123 = .ok (.aload_n 0, 1) := by decide +kernel
theorem dX8_day_124 : decode cX8_day 124 = .ok (.getfield 129, 3) := by decide +kernel
theorem dX8_day_127 : decode cX8_day 127 = .ok (.ireturn, 1) := by decide +kernel
set_option maxRecDepth 20000 in
theorem ggX8_told_X8_isTank : GoodIn wsX8_told wsX8_isTank := goodIn_r _ [15, 16, 17, 18, 14, 19, 31, 32, 33, 34, 35, 36, 37, 38, 39, 40, 41, 42, 43, 44, 45, 46, 47, 48, 49, 50, 51, 52, 53, 54, 55, 56, 57, 58, 59, 60, 61, 62, 63, 64, 65, 66, 67, 68, 69, 70, 71, 72, 73, 74, 75, 76, 77] (by decide +kernel) (by decide +kernel)
set_option maxRecDepth 20000 in
theorem gX8_told_X8_isTank : GoodIn wsX8_told (wsV RX8 125 RX8 yX8_isTank wsX8_isTank) := goodIn_app (goodIn_of _ (by decide +kernel)) ggX8_told_X8_isTank
set_option maxRecDepth 20000 in
theorem ggX8_told_X8_one : GoodIn wsX8_told wsX8_one := goodIn_r _ [22] (by decide +kernel) (by decide +kernel)
set_option maxRecDepth 20000 in
theorem gX8_told_X8_one : GoodIn wsX8_told (va_wsS RX8 198 yX8_one wsX8_one) := goodIn_app (goodIn_of _ (by decide +kernel)) ggX8_told_X8_one
set_option maxRecDepth 20000 in
theorem ggX8_told_X8_room : GoodIn wsX8_told wsX8_room := goodIn_r _ [26, 2, 6, 31, 32, 33, 34, 35, 36, 37, 38, 39, 40, 41, 42, 43, 44, 45, 46, 47, 48, 49, 50, 51, 52, 53, 54, 55, 56, 57, 58, 59, 60, 61, 62, 63, 64, 65, 66, 67, 68, 69, 70, 71, 72, 73, 74, 75, 76, 77] (by decide +kernel) (by decide +kernel)
set_option maxRecDepth 20000 in
theorem gX8_told_X8_room : GoodIn wsX8_told (wsV RX8 132 RX8 yX8_room wsX8_room) := goodIn_app (goodIn_of _ (by decide +kernel)) ggX8_told_X8_room
set_option maxRecDepth 20000 in
theorem ggX8_told_X8_isBad : GoodIn wsX8_told wsX8_isBad := goodIn_r _ [30, 2, 31, 32, 33, 34, 35, 36, 37, 38, 39, 40, 41, 42, 43, 44, 45, 46, 47, 48, 49, 50, 51, 52, 53, 54, 55, 56, 57, 58, 59, 60, 61, 62, 63, 64, 65, 66, 67, 68, 69, 70, 71, 72, 73, 74, 75, 76, 77] (by decide +kernel) (by decide +kernel)
set_option maxRecDepth 20000 in
theorem gX8_told_X8_isBad : GoodIn wsX8_told (wsV RX8 210 RX8 yX8_isBad wsX8_isBad) := goodIn_app (goodIn_of _ (by decide +kernel)) ggX8_told_X8_isBad
theorem dX8_told_0 : decode cX8_told 0 = .ok (.aload_n 0, 1) := by decide +kernel
theorem dX8_told_1 : decode cX8_told 1 = .ok (.iload_n 1, 1) := by decide +kernel
theorem dX8_told_2 : decode cX8_told 2 = .ok (.invokevirtual 125, 3) := by decide +kernel
theorem dX8_told_5 : decode cX8_told 5 = .ok (.ifCond .ne 5, 3) := by decide +kernel
theorem dX8_told_8 : decode cX8_told 8 = .ok (.iconst (-1), 1) := by decide +kernel
theorem dX8_told_9 : decode cX8_told 9 = .ok (.ireturn, 1) := by decide +kernel
theorem dX8_told_10 : decode cX8_told 10 = .ok (.iload_n 2, 1) := by decide +kernel
theorem dX8_told_11 : decode cX8_told 11 = .ok (.tableswitch 161 0 11 #[61, 68, 75, 82, 89, 96, 103, 113, 125, 132, 139, 146], 61) := by decide +kernel
theorem dX8_told_72 : decode cX8_told 72 = .ok (.aload_n 0, 1) := by decide +kernel
theorem dX8_told_73 : decode cX8_told 73 = .ok (.getfield 7, 3) := by decide +kernel
theorem dX8_told_76 : decode cX8_told 76 = .ok (.iload_n 1, 1) := by decide +kernel
theorem dX8_told_77 : decode cX8_told 77 = .ok (.iaload, 1) := by decide +kernel
theorem dX8_told_78 : decode cX8_told 78 = .ok (.ireturn, 1) := by decide +kernel
theorem dX8_told_79 : decode cX8_told 79 = .ok (.aload_n 0, 1) := by decide +kernel
theorem dX8_told_80 : decode cX8_told 80 = .ok (.getfield 13, 3) := by decide +kernel
theorem dX8_told_83 : decode cX8_told 83 = .ok (.iload_n 1, 1) := by decide +kernel
theorem dX8_told_84 : decode cX8_told 84 = .ok (.iaload, 1) := by decide +kernel
theorem dX8_told_85 : decode cX8_told 85 = .ok (.ireturn, 1) := by decide +kernel
theorem dX8_told_86 : decode cX8_told 86 = .ok (.aload_n 0, 1) := by decide +kernel
theorem dX8_told_87 : decode cX8_told 87 = .ok (.getfield 16, 3) := by decide +kernel
theorem dX8_told_90 : decode cX8_told 90 = .ok (.iload_n 1, 1) := by decide +kernel
theorem dX8_told_91 : decode cX8_told 91 = .ok (.iaload, 1) := by decide +kernel
theorem dX8_told_92 : decode cX8_told 92 = .ok (.ireturn, 1) := by decide +kernel
theorem dX8_told_93 : decode cX8_told 93 = .ok (.aload_n 0, 1) := by decide +kernel
theorem dX8_told_94 : decode cX8_told 94 = .ok (.getfield 19, 3) := by decide +kernel
theorem dX8_told_97 : decode cX8_told 97 = .ok (.iload_n 1, 1) := by decide +kernel
theorem dX8_told_98 : decode cX8_told 98 = .ok (.iaload, 1) := by decide +kernel
theorem dX8_told_99 : decode cX8_told 99 = .ok (.ireturn, 1) := by decide +kernel
theorem dX8_told_100 : decode cX8_told 100 = .ok (.aload_n 0, 1) := by decide +kernel
theorem dX8_told_101 : decode cX8_told 101 = .ok (.getfield 22, 3) := by decide +kernel
theorem dX8_told_104 : decode cX8_told 104 = .ok (.iload_n 1, 1) := by decide +kernel
theorem dX8_told_105 : decode cX8_told 105 = .ok (.iaload, 1) := by decide +kernel
theorem dX8_told_106 : decode cX8_told 106 = .ok (.ireturn, 1) := by decide +kernel
theorem dX8_told_107 : decode cX8_told 107 = .ok (.aload_n 0, 1) := by decide +kernel
theorem dX8_told_108 : decode cX8_told 108 = .ok (.getfield 25, 3) := by decide +kernel
theorem dX8_told_111 : decode cX8_told 111 = .ok (.iload_n 1, 1) := by decide +kernel
theorem dX8_told_112 : decode cX8_told 112 = .ok (.iaload, 1) := by decide +kernel
theorem dX8_told_113 : decode cX8_told 113 = .ok (.ireturn, 1) := by decide +kernel
theorem dX8_told_114 : decode cX8_told 114 = .ok (.aload_n 0, 1) := by decide +kernel
theorem dX8_told_115 : decode cX8_told 115 = .ok (.getfield 37, 3) := by decide +kernel
theorem dX8_told_118 : decode cX8_told 118 = .ok (.iload_n 1, 1) := by decide +kernel
theorem dX8_told_119 : decode cX8_told 119 = .ok (.baload, 1) := by decide +kernel
theorem dX8_told_120 : decode cX8_told 120 = .ok (.invokestatic 198, 3) := by decide +kernel
theorem dX8_told_123 : decode cX8_told 123 = .ok (.ireturn, 1) := by decide +kernel
theorem dX8_told_124 : decode cX8_told 124 = .ok (.aload_n 0, 1) := by decide +kernel
theorem dX8_told_125 : decode cX8_told 125 = .ok (.iload_n 1, 1) := by decide +kernel
theorem dX8_told_126 : decode cX8_told 126 = .ok (.aload_n 0, 1) := by decide +kernel
theorem dX8_told_127 : decode cX8_told 127 = .ok (.getfield 37, 3) := by decide +kernel
theorem dX8_told_130 : decode cX8_told 130 = .ok (.iload_n 1, 1) := by decide +kernel
theorem dX8_told_131 : decode cX8_told 131 = .ok (.baload, 1) := by decide +kernel
theorem dX8_told_132 : decode cX8_told 132 = .ok (.invokevirtual 132, 3) := by decide +kernel
theorem dX8_told_135 : decode cX8_told 135 = .ok (.ireturn, 1) := by decide +kernel
theorem dX8_told_136 : decode cX8_told 136 = .ok (.aload_n 0, 1) := by decide +kernel
theorem dX8_told_137 : decode cX8_told 137 = .ok (.getfield 28, 3) := by decide +kernel
theorem dX8_told_140 : decode cX8_told 140 = .ok (.iload_n 1, 1) := by decide +kernel
theorem dX8_told_141 : decode cX8_told 141 = .ok (.iaload, 1) := by decide +kernel
theorem dX8_told_142 : decode cX8_told 142 = .ok (.ireturn, 1) := by decide +kernel
theorem dX8_told_143 : decode cX8_told 143 = .ok (.aload_n 0, 1) := by decide +kernel
theorem dX8_told_144 : decode cX8_told 144 = .ok (.getfield 31, 3) := by decide +kernel
theorem dX8_told_147 : decode cX8_told 147 = .ok (.iload_n 1, 1) := by decide +kernel
theorem dX8_told_148 : decode cX8_told 148 = .ok (.iaload, 1) := by decide +kernel
theorem dX8_told_149 : decode cX8_told 149 = .ok (.ireturn, 1) := by decide +kernel
theorem dX8_told_150 : decode cX8_told 150 = .ok (.aload_n 0, 1) := by decide +kernel
theorem dX8_told_151 : decode cX8_told 151 = .ok (.getfield 34, 3) := by decide +kernel
theorem dX8_told_154 : decode cX8_told 154 = .ok (.iload_n 1, 1) := by decide +kernel
theorem dX8_told_155 : decode cX8_told 155 = .ok (.iaload, 1) := by decide +kernel
theorem dX8_told_156 : decode cX8_told 156 = .ok (.ireturn, 1) := by decide +kernel
theorem dX8_told_157 : decode cX8_told 157 = .ok (.aload_n 0, 1) := by decide +kernel
theorem dX8_told_158 : decode cX8_told 158 = .ok (.iload_n 1, 1) := by decide +kernel
theorem dX8_told_159 : decode cX8_told 159 = .ok (.aload_n 0, 1) := by decide +kernel
theorem dX8_told_160 : decode cX8_told 160 = .ok (.getfield 19, 3) := by decide +kernel
theorem dX8_told_163 : decode cX8_told 163 = .ok (.iload_n 1, 1) := by decide +kernel
theorem dX8_told_164 : decode cX8_told 164 = .ok (.iaload, 1) := by decide +kernel
theorem dX8_told_165 : decode cX8_told 165 = .ok (.invokevirtual 210, 3) := by decide +kernel
theorem dX8_told_168 : decode cX8_told 168 = .ok (.invokestatic 198, 3) := by decide +kernel
theorem dX8_told_171 : decode cX8_told 171 = .ok (.ireturn, 1) := by decide +kernel
theorem dX8_told_172 : decode cX8_told 172 = .ok (.iconst (-1), 1) := by decide +kernel
theorem dX8_told_173 : decode cX8_told 173 = .ok (.ireturn, 1) := by decide +kernel
set_option maxRecDepth 20000 in
theorem ggX8_fieldOf_X8_isIn : GoodIn wsX8_fieldOf wsX8_isIn := goodIn_r _ [13] (by decide +kernel) (by decide +kernel)
set_option maxRecDepth 20000 in
theorem gX8_fieldOf_X8_isIn : GoodIn wsX8_fieldOf (va_wsS RX8 121 yX8_isIn wsX8_isIn) := goodIn_app (goodIn_of _ (by decide +kernel)) ggX8_fieldOf_X8_isIn
set_option maxRecDepth 20000 in
theorem ggX8_fieldOf_X8_one : GoodIn wsX8_fieldOf wsX8_one := goodIn_r _ [16] (by decide +kernel) (by decide +kernel)
set_option maxRecDepth 20000 in
theorem gX8_fieldOf_X8_one : GoodIn wsX8_fieldOf (va_wsS RX8 198 yX8_one wsX8_one) := goodIn_app (goodIn_of _ (by decide +kernel)) ggX8_fieldOf_X8_one
theorem dX8_fieldOf_0 : decode cX8_fieldOf 0 = .ok (.iload_n 1, 1) := by decide +kernel
theorem dX8_fieldOf_1 : decode cX8_fieldOf 1 = .ok (.iconst 0, 1) := by decide +kernel
theorem dX8_fieldOf_2 : decode cX8_fieldOf 2 = .ok (.aload_n 0, 1) := by decide +kernel
theorem dX8_fieldOf_3 : decode cX8_fieldOf 3 = .ok (.getfield 139, 3) := by decide +kernel
theorem dX8_fieldOf_6 : decode cX8_fieldOf 6 = .ok (.iconst 1, 1) := by decide +kernel
theorem dX8_fieldOf_7 : decode cX8_fieldOf 7 = .ok (.isub, 1) := by decide +kernel
theorem dX8_fieldOf_8 : decode cX8_fieldOf 8 = .ok (.invokestatic 121, 3) := by decide +kernel
theorem dX8_fieldOf_11 : decode cX8_fieldOf 11 = .ok (.ifCond .ne 5, 3) := by decide +kernel
theorem dX8_fieldOf_14 : decode cX8_fieldOf 14 = .ok (.iconst (-1), 1) := by decide +kernel
theorem dX8_fieldOf_15 : decode cX8_fieldOf 15 = .ok (.ireturn, 1) := by decide +kernel
theorem dX8_fieldOf_16 : decode cX8_fieldOf 16 = .ok (.iload_n 2, 1) := by decide +kernel
theorem dX8_fieldOf_17 : decode cX8_fieldOf 17 = .ok (.tableswitch 106 0 7 #[47, 54, 61, 68, 75, 85, 92, 99], 47) := by decide +kernel
theorem dX8_fieldOf_64 : decode cX8_fieldOf 64 = .ok (.aload_n 0, 1) := by decide +kernel
theorem dX8_fieldOf_65 : decode cX8_fieldOf 65 = .ok (.getfield 41, 3) := by decide +kernel
theorem dX8_fieldOf_68 : decode cX8_fieldOf 68 = .ok (.iload_n 1, 1) := by decide +kernel
theorem dX8_fieldOf_69 : decode cX8_fieldOf 69 = .ok (.iaload, 1) := by decide +kernel
theorem dX8_fieldOf_70 : decode cX8_fieldOf 70 = .ok (.ireturn, 1) := by decide +kernel
theorem dX8_fieldOf_71 : decode cX8_fieldOf 71 = .ok (.aload_n 0, 1) := by decide +kernel
theorem dX8_fieldOf_72 : decode cX8_fieldOf 72 = .ok (.getfield 44, 3) := by decide +kernel
theorem dX8_fieldOf_75 : decode cX8_fieldOf 75 = .ok (.iload_n 1, 1) := by decide +kernel
theorem dX8_fieldOf_76 : decode cX8_fieldOf 76 = .ok (.iaload, 1) := by decide +kernel
theorem dX8_fieldOf_77 : decode cX8_fieldOf 77 = .ok (.ireturn, 1) := by decide +kernel
theorem dX8_fieldOf_78 : decode cX8_fieldOf 78 = .ok (.aload_n 0, 1) := by decide +kernel
theorem dX8_fieldOf_79 : decode cX8_fieldOf 79 = .ok (.getfield 47, 3) := by decide +kernel
theorem dX8_fieldOf_82 : decode cX8_fieldOf 82 = .ok (.iload_n 1, 1) := by decide +kernel
theorem dX8_fieldOf_83 : decode cX8_fieldOf 83 = .ok (.iaload, 1) := by decide +kernel
theorem dX8_fieldOf_84 : decode cX8_fieldOf 84 = .ok (.ireturn, 1) := by decide +kernel
theorem dX8_fieldOf_85 : decode cX8_fieldOf 85 = .ok (.aload_n 0, 1) := by decide +kernel
theorem dX8_fieldOf_86 : decode cX8_fieldOf 86 = .ok (.getfield 50, 3) := by decide +kernel
theorem dX8_fieldOf_89 : decode cX8_fieldOf 89 = .ok (.iload_n 1, 1) := by decide +kernel
theorem dX8_fieldOf_90 : decode cX8_fieldOf 90 = .ok (.iaload, 1) := by decide +kernel
theorem dX8_fieldOf_91 : decode cX8_fieldOf 91 = .ok (.ireturn, 1) := by decide +kernel
theorem dX8_fieldOf_92 : decode cX8_fieldOf 92 = .ok (.aload_n 0, 1) := by decide +kernel
theorem dX8_fieldOf_93 : decode cX8_fieldOf 93 = .ok (.getfield 62, 3) := by decide +kernel
theorem dX8_fieldOf_96 : decode cX8_fieldOf 96 = .ok (.iload_n 1, 1) := by decide +kernel
theorem dX8_fieldOf_97 : decode cX8_fieldOf 97 = .ok (.baload, 1) := by decide +kernel
theorem dX8_fieldOf_98 : decode cX8_fieldOf 98 = .ok (.invokestatic 198, 3) := by decide +kernel
theorem dX8_fieldOf_101 : decode cX8_fieldOf 101 = .ok (.ireturn, 1) := by decide +kernel
theorem dX8_fieldOf_102 : decode cX8_fieldOf 102 = .ok (.aload_n 0, 1) := by decide +kernel
theorem dX8_fieldOf_103 : decode cX8_fieldOf 103 = .ok (.getfield 53, 3) := by decide +kernel
theorem dX8_fieldOf_106 : decode cX8_fieldOf 106 = .ok (.iload_n 1, 1) := by decide +kernel
theorem dX8_fieldOf_107 : decode cX8_fieldOf 107 = .ok (.iaload, 1) := by decide +kernel
theorem dX8_fieldOf_108 : decode cX8_fieldOf 108 = .ok (.ireturn, 1) := by decide +kernel
theorem dX8_fieldOf_109 : decode cX8_fieldOf 109 = .ok (.aload_n 0, 1) := by decide +kernel
theorem dX8_fieldOf_110 : decode cX8_fieldOf 110 = .ok (.getfield 56, 3) := by decide +kernel
theorem dX8_fieldOf_113 : decode cX8_fieldOf 113 = .ok (.iload_n 1, 1) := by decide +kernel
theorem dX8_fieldOf_114 : decode cX8_fieldOf 114 = .ok (.iaload, 1) := by decide +kernel
theorem dX8_fieldOf_115 : decode cX8_fieldOf 115 = .ok (.ireturn, 1) := by decide +kernel
theorem dX8_fieldOf_116 : decode cX8_fieldOf 116 = .ok (.aload_n 0, 1) := by decide +kernel
theorem dX8_fieldOf_117 : decode cX8_fieldOf 117 = .ok (.getfield 59, 3) := by decide +kernel
theorem dX8_fieldOf_120 : decode cX8_fieldOf 120 = .ok (.iload_n 1, 1) := by decide +kernel
theorem dX8_fieldOf_121 : decode cX8_fieldOf 121 = .ok (.iaload, 1) := by decide +kernel
theorem dX8_fieldOf_122 : decode cX8_fieldOf 122 = .ok (.ireturn, 1) := by decide +kernel
theorem dX8_fieldOf_123 : decode cX8_fieldOf 123 = .ok (.iconst (-1), 1) := by decide +kernel
theorem dX8_fieldOf_124 : decode cX8_fieldOf 124 = .ok (.ireturn, 1) := by decide +kernel
set_option maxRecDepth 20000 in
theorem ggX8_owner_X8_isIn : GoodIn wsX8_owner wsX8_isIn := goodIn_r _ [5] (by decide +kernel) (by decide +kernel)
set_option maxRecDepth 20000 in
theorem gX8_owner_X8_isIn : GoodIn wsX8_owner (va_wsS RX8 121 yX8_isIn wsX8_isIn) := goodIn_app (goodIn_of _ (by decide +kernel)) ggX8_owner_X8_isIn
theorem dX8_owner_0 : decode cX8_owner 0 = .ok (.iload_n 1, 1) := by decide +kernel
theorem dX8_owner_1 : decode cX8_owner 1 = .ok (.iconst 0, 1) := by decide +kernel
theorem dX8_owner_2 : decode cX8_owner 2 = .ok (.bipush 9, 2) := by decide +kernel
theorem dX8_owner_4 : decode cX8_owner 4 = .ok (.invokestatic 121, 3) := by decide +kernel
theorem dX8_owner_7 : decode cX8_owner 7 = .ok (.ifCond .eq 12, 3) := by decide +kernel
theorem dX8_owner_10 : decode cX8_owner 10 = .ok (.aload_n 0, 1) := by decide +kernel
theorem dX8_owner_11 : decode cX8_owner 11 = .ok (.getfield 65, 3) := by decide +kernel
theorem dX8_owner_14 : decode cX8_owner 14 = .ok (.iload_n 1, 1) := by decide +kernel
theorem dX8_owner_15 : decode cX8_owner 15 = .ok (.iaload, 1) := by decide +kernel
theorem dX8_owner_16 : decode cX8_owner 16 = .ok (.goto 4, 3) := by decide +kernel
theorem dX8_owner_19 : decode cX8_owner 19 = .ok (.iconst (-1), 1) := by decide +kernel
theorem dX8_owner_20 : decode cX8_owner 20 = .ok (.ireturn, 1) := by decide +kernel
set_option maxRecDepth 20000 in
theorem ggX8_tries_X8_flows : GoodIn wsX8_tries wsX8_flows := goodIn_r _ [11, 1, 12, 13, 14, 15, 16, 17, 18, 19, 20, 21, 22, 23, 24, 25, 26, 27, 28, 29, 30, 31, 32, 33, 34, 35, 36, 37, 38, 39, 40, 10, 41, 42, 43, 44, 45, 46, 47, 48, 49, 50, 51, 52, 53, 54, 55, 56, 57, 58, 59, 60, 61, 62, 63, 64, 65, 66, 67, 68, 69, 70, 71, 72, 73, 74, 75, 76, 77, 78, 79, 80, 81, 82, 83, 84, 85, 86, 87, 88, 89, 90, 91, 92, 93, 94, 95, 96, 97, 98, 99, 100, 101, 102, 103, 104, 105, 106, 107, 108, 109, 110, 111, 112, 113, 114, 115, 116, 117, 118, 119, 120, 121, 122] (by decide +kernel) (by decide +kernel)
set_option maxRecDepth 20000 in
theorem gX8_tries_X8_flows : GoodIn wsX8_tries (wsV RX8 232 RX8 yX8_flows wsX8_flows) := goodIn_app (goodIn_of _ (by decide +kernel)) ggX8_tries_X8_flows
theorem dX8_tries_0 : decode cX8_tries 0 = .ok (.iconst 0, 1) := by decide +kernel
theorem dX8_tries_1 : decode cX8_tries 1 = .ok (.istore_n 3, 1) := by decide +kernel
theorem dX8_tries_2 : decode cX8_tries 2 = .ok (.iload_n 3, 1) := by decide +kernel
theorem dX8_tries_3 : decode cX8_tries 3 = .ok (.aload_n 0, 1) := by decide +kernel
theorem dX8_tries_4 : decode cX8_tries 4 = .ok (.getfield 118, 3) := by decide +kernel
theorem dX8_tries_7 : decode cX8_tries 7 = .ok (.if_icmp .ge 33, 3) := by decide +kernel
theorem dX8_tries_10 : decode cX8_tries 10 = .ok (.aload_n 0, 1) := by decide +kernel
theorem dX8_tries_11 : decode cX8_tries 11 = .ok (.getfield 100, 3) := by decide +kernel
theorem dX8_tries_14 : decode cX8_tries 14 = .ok (.iload_n 3, 1) := by decide +kernel
theorem dX8_tries_15 : decode cX8_tries 15 = .ok (.aload_n 0, 1) := by decide +kernel
theorem dX8_tries_16 : decode cX8_tries 16 = .ok (.getfield 19, 3) := by decide +kernel
theorem dX8_tries_19 : decode cX8_tries 19 = .ok (.iload_n 3, 1) := by decide +kernel
theorem dX8_tries_20 : decode cX8_tries 20 = .ok (.iaload, 1) := by decide +kernel
theorem dX8_tries_21 : decode cX8_tries 21 = .ok (.iastore, 1) := by decide +kernel
theorem dX8_tries_22 : decode cX8_tries 22 = .ok (.aload_n 0, 1) := by decide +kernel
theorem dX8_tries_23 : decode cX8_tries 23 = .ok (.getfield 106, 3) := by decide +kernel
theorem dX8_tries_26 : decode cX8_tries 26 = .ok (.iload_n 3, 1) := by decide +kernel
theorem dX8_tries_27 : decode cX8_tries 27 = .ok (.aload_n 0, 1) := by decide +kernel
theorem dX8_tries_28 : decode cX8_tries 28 = .ok (.getfield 37, 3) := by decide +kernel
theorem dX8_tries_31 : decode cX8_tries 31 = .ok (.iload_n 3, 1) := by decide +kernel
theorem dX8_tries_32 : decode cX8_tries 32 = .ok (.baload, 1) := by decide +kernel
theorem dX8_tries_33 : decode cX8_tries 33 = .ok (.bastore, 1) := by decide +kernel
theorem dX8_tries_34 : decode cX8_tries 34 = .ok (.iinc 3 1, 3) := by decide +kernel
theorem dX8_tries_37 : decode cX8_tries 37 = .ok (.goto (-35), 3) := by decide +kernel
theorem dX8_tries_40 : decode cX8_tries 40 = .ok (.iconst 0, 1) := by decide +kernel
theorem dX8_tries_41 : decode cX8_tries 41 = .ok (.istore_n 3, 1) := by decide +kernel
theorem dX8_tries_42 : decode cX8_tries 42 = .ok (.iconst 0, 1) := by decide +kernel
theorem dX8_tries_43 : decode cX8_tries 43 = .ok (.istore 4, 2) := by decide +kernel
theorem dX8_tries_45 : decode cX8_tries 45 = .ok (.iload 4, 2) := by decide +kernel
theorem dX8_tries_47 : decode cX8_tries 47 = .ok (.iload_n 1, 1) := by decide +kernel
theorem dX8_tries_48 : decode cX8_tries 48 = .ok (.if_icmp .ge 30, 3) := by decide +kernel
theorem dX8_tries_51 : decode cX8_tries 51 = .ok (.iload_n 3, 1) := by decide +kernel
theorem dX8_tries_52 : decode cX8_tries 52 = .ok (.aload_n 0, 1) := by decide +kernel
theorem dX8_tries_53 : decode cX8_tries 53 = .ok (.aload_n 0, 1) := by decide +kernel
theorem dX8_tries_54 : decode cX8_tries 54 = .ok (.getfield 100, 3) := by decide +kernel
theorem dX8_tries_57 : decode cX8_tries 57 = .ok (.aload_n 0, 1) := by decide +kernel
theorem dX8_tries_58 : decode cX8_tries 58 = .ok (.getfield 106, 3) := by decide +kernel
theorem dX8_tries_61 : decode cX8_tries 61 = .ok (.aload_n 0, 1) := by decide +kernel
theorem dX8_tries_62 : decode cX8_tries 62 = .ok (.getfield 103, 3) := by decide +kernel
theorem dX8_tries_65 : decode cX8_tries 65 = .ok (.iload_n 2, 1) := by decide +kernel
theorem dX8_tries_66 : decode cX8_tries 66 = .ok (.iconst 0, 1) := by decide +kernel
theorem dX8_tries_67 : decode cX8_tries 67 = .ok (.invokevirtual 232, 3) := by decide +kernel
theorem dX8_tries_70 : decode cX8_tries 70 = .ok (.iadd, 1) := by decide +kernel
theorem dX8_tries_71 : decode cX8_tries 71 = .ok (.istore_n 3, 1) := by decide +kernel
theorem dX8_tries_72 : decode cX8_tries 72 = .ok (.iinc 4 1, 3) := by decide +kernel
theorem dX8_tries_75 : decode cX8_tries 75 = .ok (.goto (-30), 3) := by decide +kernel
theorem dX8_tries_78 : decode cX8_tries 78 = .ok (.iload_n 3, 1) := by decide +kernel
theorem dX8_tries_79 : decode cX8_tries 79 = .ok (.ireturn, 1) := by decide +kernel
theorem dX8_openings_0 : decode cX8_openings 0 = .ok (.iconst 0, 1) := by decide +kernel
theorem dX8_openings_1 : decode cX8_openings 1 = .ok (.istore_n 1, 1) := by decide +kernel
theorem dX8_openings_2 : decode cX8_openings 2 = .ok (.iload_n 1, 1) := by decide +kernel
theorem dX8_openings_3 : decode cX8_openings 3 = .ok (.aload_n 0, 1) := by decide +kernel
theorem dX8_openings_4 : decode cX8_openings 4 = .ok (.getfield 118, 3) := by decide +kernel
theorem dX8_openings_7 : decode cX8_openings 7 = .ok (.if_icmp .ge 21, 3) := by decide +kernel
theorem dX8_openings_10 : decode cX8_openings 10 = .ok (.aload_n 0, 1) := by decide +kernel
theorem dX8_openings_11 : decode cX8_openings 11 = .ok (.getfield 103, 3) := by decide +kernel
theorem dX8_openings_14 : decode cX8_openings 14 = .ok (.iload_n 1, 1) := by decide +kernel
theorem dX8_openings_15 : decode cX8_openings 15 = .ok (.aload_n 0, 1) := by decide +kernel
theorem dX8_openings_16 : decode cX8_openings 16 = .ok (.getfield 22, 3) := by decide +kernel
theorem dX8_openings_19 : decode cX8_openings 19 = .ok (.iload_n 1, 1) := by decide +kernel
theorem dX8_openings_20 : decode cX8_openings 20 = .ok (.iaload, 1) := by decide +kernel
theorem dX8_openings_21 : decode cX8_openings 21 = .ok (.iastore, 1) := by decide +kernel
theorem dX8_openings_22 : decode cX8_openings 22 = .ok (.iinc 1 1, 3) := by decide +kernel
theorem dX8_openings_25 : decode cX8_openings 25 = .ok (.goto (-23), 3) := by decide +kernel
theorem dX8_openings_28 : decode cX8_openings 28 = .ok (.return_, 1) := by decide +kernel
set_option maxRecDepth 20000 in
theorem ggX8_isTrial_X8_isIn : GoodIn wsX8_isTrial wsX8_isIn := goodIn_r _ [4] (by decide +kernel) (by decide +kernel)
set_option maxRecDepth 20000 in
theorem gX8_isTrial_X8_isIn : GoodIn wsX8_isTrial (va_wsS RX8 121 yX8_isIn wsX8_isIn) := goodIn_app (goodIn_of _ (by decide +kernel)) ggX8_isTrial_X8_isIn
theorem dX8_isTrial_0 : decode cX8_isTrial 0 = .ok (.iload_n 0, 1) := by decide +kernel
theorem dX8_isTrial_1 : decode cX8_isTrial 1 = .ok (.iconst 1, 1) := by decide +kernel
theorem dX8_isTrial_2 : decode cX8_isTrial 2 = .ok (.bipush 10, 2) := by decide +kernel
theorem dX8_isTrial_4 : decode cX8_isTrial 4 = .ok (.invokestatic 121, 3) := by decide +kernel
theorem dX8_isTrial_7 : decode cX8_isTrial 7 = .ok (.ifCond .eq 17, 3) := by decide +kernel
theorem dX8_isTrial_10 : decode cX8_isTrial 10 = .ok (.iload_n 1, 1) := by decide +kernel
theorem dX8_isTrial_11 : decode cX8_isTrial 11 = .ok (.iconst 0, 1) := by decide +kernel
theorem dX8_isTrial_12 : decode cX8_isTrial 12 = .ok (.bipush 50, 2) := by decide +kernel
theorem dX8_isTrial_14 : decode cX8_isTrial 14 = .ok (.invokestatic 121, 3) := by decide +kernel
theorem dX8_isTrial_17 : decode cX8_isTrial 17 = .ok (.ifCond .eq 7, 3) := by decide +kernel
theorem dX8_isTrial_20 : decode cX8_isTrial 20 = .ok (.iconst 1, 1) := by decide +kernel
theorem dX8_isTrial_21 : decode cX8_isTrial 21 = .ok (.goto 4, 3) := by decide +kernel
theorem dX8_isTrial_24 : decode cX8_isTrial 24 = .ok (.iconst 0, 1) := by decide +kernel
theorem dX8_isTrial_25 : decode cX8_isTrial 25 = .ok (.ireturn, 1) := by decide +kernel
set_option maxRecDepth 20000 in
theorem ggX8_tried_X8_isTank : GoodIn wsX8_tried wsX8_isTank := goodIn_r _ [6, 7, 8, 9, 5, 10, 95, 96, 97, 98, 99, 100, 101, 102, 103, 104, 105, 106, 107, 108, 109, 110, 111, 112, 113, 114, 115, 116, 117, 118, 119, 120, 121, 122, 123, 124, 125, 126, 127, 128, 129, 130, 131, 132, 133, 134, 135, 136, 137, 138, 139, 140, 141] (by decide +kernel) (by decide +kernel)
set_option maxRecDepth 20000 in
theorem gX8_tried_X8_isTank : GoodIn wsX8_tried (wsV RX8 125 RX8 yX8_isTank wsX8_isTank) := goodIn_app (goodIn_of _ (by decide +kernel)) ggX8_tried_X8_isTank
set_option maxRecDepth 20000 in
theorem ggX8_tried_X8_isTrial : GoodIn wsX8_tried wsX8_isTrial := goodIn_r _ [13, 8, 9, 5, 10] (by decide +kernel) (by decide +kernel)
set_option maxRecDepth 20000 in
theorem gX8_tried_X8_isTrial : GoodIn wsX8_tried (va_wsS RX8 236 yX8_isTrial wsX8_isTrial) := goodIn_app (goodIn_of _ (by decide +kernel)) ggX8_tried_X8_isTrial
set_option maxRecDepth 20000 in
theorem ggX8_tried_X8_openings : GoodIn wsX8_tried wsX8_openings := goodIn_r _ [17, 7, 18, 19, 95, 96, 97, 98, 99, 100, 101, 102, 103, 104, 105, 106, 107, 108, 109, 110, 111, 112, 113, 114, 115, 116, 117, 118, 119, 120, 121, 122, 123, 124, 125, 126, 127, 128, 129, 130, 131, 132, 133, 134, 135, 136, 137, 138, 139, 140, 141] (by decide +kernel) (by decide +kernel)
set_option maxRecDepth 20000 in
theorem gX8_tried_X8_openings : GoodIn wsX8_tried (wsV RX8 239 RX8 yX8_openings wsX8_openings) := goodIn_app (goodIn_of _ (by decide +kernel)) ggX8_tried_X8_openings
set_option maxRecDepth 20000 in
theorem ggX8_tried_X8_tries : GoodIn wsX8_tried wsX8_tries := goodIn_r _ [23, 7, 1, 24, 25, 26, 18, 27, 28, 29, 5, 30, 31, 32, 33, 34, 35, 36, 37, 38, 39, 40, 41, 42, 43, 44, 45, 46, 47, 48, 49, 50, 51, 52, 53, 54, 55, 56, 57, 58, 59, 60, 61, 62, 63, 64, 65, 66, 67, 68, 69, 70, 71, 72, 73, 74, 75, 76, 77, 78, 79, 80, 81, 82, 83, 84, 85, 86, 87, 88, 89, 90, 91, 92, 93, 94, 95, 96, 97, 98, 99, 100, 101, 102, 103, 104, 105, 106, 107, 108, 109, 110, 111, 112, 113, 114, 115, 116, 117, 118, 119, 120, 121, 122, 123, 124, 125, 126, 127, 128, 129, 130, 131, 132, 133, 134, 135, 136, 137, 138, 139, 140, 141] (by decide +kernel) (by decide +kernel)
set_option maxRecDepth 20000 in
theorem gX8_tried_X8_tries : GoodIn wsX8_tried (wsV RX8 242 RX8 yX8_tries wsX8_tries) := goodIn_app (goodIn_of _ (by decide +kernel)) ggX8_tried_X8_tries
theorem dX8_tried_0 : decode cX8_tried 0 = .ok (.aload_n 0, 1) := by decide +kernel
theorem dX8_tried_1 : decode cX8_tried 1 = .ok (.iload_n 1, 1) := by decide +kernel
theorem dX8_tried_2 : decode cX8_tried 2 = .ok (.invokevirtual 125, 3) := by decide +kernel
theorem dX8_tried_5 : decode cX8_tried 5 = .ok (.ifCond .eq 11, 3) := by decide +kernel
theorem dX8_tried_8 : decode cX8_tried 8 = .ok (.iload_n 2, 1) := by decide +kernel
theorem dX8_tried_9 : decode cX8_tried 9 = .ok (.iload_n 3, 1) := by decide +kernel
theorem dX8_tried_10 : decode cX8_tried 10 = .ok (.invokestatic 236, 3) := by decide +kernel
theorem dX8_tried_13 : decode cX8_tried 13 = .ok (.ifCond .ne 5, 3) := by decide +kernel
theorem dX8_tried_16 : decode cX8_tried 16 = .ok (.iconst (-1), 1) := by decide +kernel
theorem dX8_tried_17 : decode cX8_tried 17 = .ok (.ireturn, 1) := by decide +kernel
theorem dX8_tried_18 : decode cX8_tried 18 = .ok (.aload_n 0, 1) := by decide +kernel
theorem dX8_tried_19 : decode cX8_tried 19 = .ok (.invokevirtual 239, 3) := by decide +kernel
theorem dX8_tried_22 : decode cX8_tried 22 = .ok (.aload_n 0, 1) := by decide +kernel
theorem dX8_tried_23 : decode cX8_tried 23 = .ok (.iload_n 2, 1) := by decide +kernel
theorem dX8_tried_24 : decode cX8_tried 24 = .ok (.iload_n 3, 1) := by decide +kernel
theorem dX8_tried_25 : decode cX8_tried 25 = .ok (.invokevirtual 242, 3) := by decide +kernel
theorem dX8_tried_28 : decode cX8_tried 28 = .ok (.pop, 1) := by decide +kernel
theorem dX8_tried_29 : decode cX8_tried 29 = .ok (.aload_n 0, 1) := by decide +kernel
theorem dX8_tried_30 : decode cX8_tried 30 = .ok (.getfield 100, 3) := by decide +kernel
theorem dX8_tried_33 : decode cX8_tried 33 = .ok (.iload_n 1, 1) := by decide +kernel
theorem dX8_tried_34 : decode cX8_tried 34 = .ok (.iaload, 1) := by decide +kernel
theorem dX8_tried_35 : decode cX8_tried 35 = .ok (.ireturn, 1) := by decide +kernel
set_option maxRecDepth 20000 in
theorem ggX8_lost_X8_isTank : GoodIn wsX8_lost wsX8_isTank := goodIn_r _ [8, 9, 10, 11, 7, 12, 96, 97, 98, 99, 100, 101, 102, 103, 104, 105, 106, 107, 108, 109, 110, 111, 112, 113, 114, 115, 116, 117, 118, 119, 120, 121, 122, 123, 124, 125, 126, 127, 128, 129, 130, 131, 132, 133, 134, 135, 136, 137, 138, 139, 140, 141, 142] (by decide +kernel) (by decide +kernel)
set_option maxRecDepth 20000 in
theorem gX8_lost_X8_isTank : GoodIn wsX8_lost (wsV RX8 125 RX8 yX8_isTank wsX8_isTank) := goodIn_app (goodIn_of _ (by decide +kernel)) ggX8_lost_X8_isTank
set_option maxRecDepth 20000 in
theorem ggX8_lost_X8_isTrial : GoodIn wsX8_lost wsX8_isTrial := goodIn_r _ [15, 10, 11, 7, 12] (by decide +kernel) (by decide +kernel)
set_option maxRecDepth 20000 in
theorem gX8_lost_X8_isTrial : GoodIn wsX8_lost (va_wsS RX8 236 yX8_isTrial wsX8_isTrial) := goodIn_app (goodIn_of _ (by decide +kernel)) ggX8_lost_X8_isTrial
set_option maxRecDepth 20000 in
theorem ggX8_lost_X8_openings : GoodIn wsX8_lost wsX8_openings := goodIn_r _ [19, 9, 3, 20, 96, 97, 98, 99, 100, 101, 102, 103, 104, 105, 106, 107, 108, 109, 110, 111, 112, 113, 114, 115, 116, 117, 118, 119, 120, 121, 122, 123, 124, 125, 126, 127, 128, 129, 130, 131, 132, 133, 134, 135, 136, 137, 138, 139, 140, 141, 142] (by decide +kernel) (by decide +kernel)
set_option maxRecDepth 20000 in
theorem gX8_lost_X8_openings : GoodIn wsX8_lost (wsV RX8 239 RX8 yX8_openings wsX8_openings) := goodIn_app (goodIn_of _ (by decide +kernel)) ggX8_lost_X8_openings
set_option maxRecDepth 20000 in
theorem ggX8_lost_X8_tries : GoodIn wsX8_lost wsX8_tries := goodIn_r _ [24, 9, 2, 25, 26, 27, 3, 28, 29, 30, 7, 31, 32, 33, 34, 35, 36, 37, 38, 39, 40, 41, 42, 43, 44, 45, 46, 47, 48, 49, 50, 51, 52, 53, 54, 55, 56, 57, 58, 59, 60, 61, 62, 63, 64, 65, 66, 67, 68, 69, 70, 71, 72, 73, 74, 75, 76, 77, 78, 79, 80, 81, 82, 83, 84, 85, 86, 87, 88, 89, 90, 91, 92, 93, 94, 95, 96, 97, 98, 99, 100, 101, 102, 103, 104, 105, 106, 107, 108, 109, 110, 111, 112, 113, 114, 115, 116, 117, 118, 119, 120, 121, 122, 123, 124, 125, 126, 127, 128, 129, 130, 131, 132, 133, 134, 135, 136, 137, 138, 139, 140, 141, 142] (by decide +kernel) (by decide +kernel)
set_option maxRecDepth 20000 in
theorem gX8_lost_X8_tries : GoodIn wsX8_lost (wsV RX8 242 RX8 yX8_tries wsX8_tries) := goodIn_app (goodIn_of _ (by decide +kernel)) ggX8_lost_X8_tries
theorem dX8_lost_0 : decode cX8_lost 0 = .ok (.aload_n 0, 1) := by decide +kernel
theorem dX8_lost_1 : decode cX8_lost 1 = .ok (.iload_n 1, 1) := by decide +kernel
theorem dX8_lost_2 : decode cX8_lost 2 = .ok (.invokevirtual 125, 3) := by decide +kernel
theorem dX8_lost_5 : decode cX8_lost 5 = .ok (.ifCond .eq 25, 3) := by decide +kernel
theorem dX8_lost_8 : decode cX8_lost 8 = .ok (.aload_n 0, 1) := by decide +kernel
theorem dX8_lost_9 : decode cX8_lost 9 = .ok (.iload_n 2, 1) := by decide +kernel
theorem dX8_lost_10 : decode cX8_lost 10 = .ok (.invokevirtual 125, 3) := by decide +kernel
theorem dX8_lost_13 : decode cX8_lost 13 = .ok (.ifCond .eq 17, 3) := by decide +kernel
theorem dX8_lost_16 : decode cX8_lost 16 = .ok (.iload_n 1, 1) := by decide +kernel
theorem dX8_lost_17 : decode cX8_lost 17 = .ok (.iload_n 2, 1) := by decide +kernel
theorem dX8_lost_18 : decode cX8_lost 18 = .ok (.if_icmp .ge 12, 3) := by decide +kernel
theorem dX8_lost_21 : decode cX8_lost 21 = .ok (.iload_n 3, 1) := by decide +kernel
theorem dX8_lost_22 : decode cX8_lost 22 = .ok (.iload 4, 2) := by decide +kernel
theorem dX8_lost_24 : decode cX8_lost 24 = .ok (.invokestatic 236, 3) := by decide +kernel
theorem dX8_lost_27 : decode cX8_lost 27 = .ok (.ifCond .ne 6, 3) := by decide +kernel
theorem dX8_lost_30 : decode cX8_lost 30 = .ok (.ldc 245, 2) := by decide +kernel
theorem dX8_lost_32 : decode cX8_lost 32 = .ok (.ireturn, 1) := by decide +kernel
theorem dX8_lost_33 : decode cX8_lost 33 = .ok (.aload_n 0, 1) := by decide +kernel
theorem dX8_lost_34 : decode cX8_lost 34 = .ok (.invokevirtual 239, 3) := by decide +kernel
theorem dX8_lost_37 : decode cX8_lost 37 = .ok (.aload_n 0, 1) := by decide +kernel
theorem dX8_lost_38 : decode cX8_lost 38 = .ok (.iload_n 3, 1) := by decide +kernel
theorem dX8_lost_39 : decode cX8_lost 39 = .ok (.iload 4, 2) := by decide +kernel
theorem dX8_lost_41 : decode cX8_lost 41 = .ok (.invokevirtual 242, 3) := by decide +kernel
theorem dX8_lost_44 : decode cX8_lost 44 = .ok (.pop, 1) := by decide +kernel
theorem dX8_lost_45 : decode cX8_lost 45 = .ok (.aload_n 0, 1) := by decide +kernel
theorem dX8_lost_46 : decode cX8_lost 46 = .ok (.getfield 100, 3) := by decide +kernel
theorem dX8_lost_49 : decode cX8_lost 49 = .ok (.iload_n 2, 1) := by decide +kernel
theorem dX8_lost_50 : decode cX8_lost 50 = .ok (.iaload, 1) := by decide +kernel
theorem dX8_lost_51 : decode cX8_lost 51 = .ok (.istore 5, 2) := by decide +kernel
theorem dX8_lost_53 : decode cX8_lost 53 = .ok (.aload_n 0, 1) := by decide +kernel
theorem dX8_lost_54 : decode cX8_lost 54 = .ok (.getfield 103, 3) := by decide +kernel
theorem dX8_lost_57 : decode cX8_lost 57 = .ok (.iload_n 1, 1) := by decide +kernel
theorem dX8_lost_58 : decode cX8_lost 58 = .ok (.iconst 0, 1) := by decide +kernel
theorem dX8_lost_59 : decode cX8_lost 59 = .ok (.iastore, 1) := by decide +kernel
theorem dX8_lost_60 : decode cX8_lost 60 = .ok (.aload_n 0, 1) := by decide +kernel
theorem dX8_lost_61 : decode cX8_lost 61 = .ok (.iload_n 3, 1) := by decide +kernel
theorem dX8_lost_62 : decode cX8_lost 62 = .ok (.iload 4, 2) := by decide +kernel
theorem dX8_lost_64 : decode cX8_lost 64 = .ok (.invokevirtual 242, 3) := by decide +kernel
theorem dX8_lost_67 : decode cX8_lost 67 = .ok (.pop, 1) := by decide +kernel
theorem dX8_lost_68 : decode cX8_lost 68 = .ok (.aload_n 0, 1) := by decide +kernel
theorem dX8_lost_69 : decode cX8_lost 69 = .ok (.getfield 100, 3) := by decide +kernel
theorem dX8_lost_72 : decode cX8_lost 72 = .ok (.iload_n 2, 1) := by decide +kernel
theorem dX8_lost_73 : decode cX8_lost 73 = .ok (.iaload, 1) := by decide +kernel
theorem dX8_lost_74 : decode cX8_lost 74 = .ok (.iload 5, 2) := by decide +kernel
theorem dX8_lost_76 : decode cX8_lost 76 = .ok (.isub, 1) := by decide +kernel
theorem dX8_lost_77 : decode cX8_lost 77 = .ok (.ireturn, 1) := by decide +kernel
set_option maxRecDepth 20000 in
theorem ggX8_most_X8_isIn : GoodIn wsX8_most wsX8_isIn := goodIn_r _ [6] (by decide +kernel) (by decide +kernel)
set_option maxRecDepth 20000 in
theorem gX8_most_X8_isIn : GoodIn wsX8_most (va_wsS RX8 121 yX8_isIn wsX8_isIn) := goodIn_app (goodIn_of _ (by decide +kernel)) ggX8_most_X8_isIn
set_option maxRecDepth 20000 in
theorem ggX8_most_X8_isTrial : GoodIn wsX8_most wsX8_isTrial := goodIn_r _ [9, 3, 4, 5, 6] (by decide +kernel) (by decide +kernel)
set_option maxRecDepth 20000 in
theorem gX8_most_X8_isTrial : GoodIn wsX8_most (va_wsS RX8 236 yX8_isTrial wsX8_isTrial) := goodIn_app (goodIn_of _ (by decide +kernel)) ggX8_most_X8_isTrial
set_option maxRecDepth 20000 in
theorem ggX8_most_X8_openings : GoodIn wsX8_most wsX8_openings := goodIn_r _ [13, 1, 2, 14, 91, 92, 93, 94, 95, 96, 97, 98, 99, 100, 101, 102, 103, 104, 105, 106, 107, 108, 109, 110, 111, 112, 113, 114, 115, 116, 117, 118, 119, 120, 121, 122, 123, 124, 125, 126, 127, 128, 129, 130, 131, 132, 133, 134, 135, 136, 137] (by decide +kernel) (by decide +kernel)
set_option maxRecDepth 20000 in
theorem gX8_most_X8_openings : GoodIn wsX8_most (wsV RX8 239 RX8 yX8_openings wsX8_openings) := goodIn_app (goodIn_of _ (by decide +kernel)) ggX8_most_X8_openings
set_option maxRecDepth 20000 in
theorem ggX8_most_X8_tries : GoodIn wsX8_most wsX8_tries := goodIn_r _ [18, 1, 19, 20, 21, 22, 2, 23, 24, 25, 5, 26, 27, 28, 29, 30, 31, 32, 33, 34, 35, 36, 37, 38, 39, 40, 41, 42, 43, 44, 45, 46, 47, 48, 49, 50, 51, 52, 53, 54, 55, 56, 57, 58, 59, 60, 61, 62, 63, 64, 65, 66, 67, 68, 69, 70, 71, 72, 73, 74, 75, 76, 77, 78, 79, 80, 81, 82, 83, 84, 85, 86, 87, 88, 89, 90, 91, 92, 93, 94, 95, 96, 97, 98, 99, 100, 101, 102, 103, 104, 105, 106, 107, 108, 109, 110, 111, 112, 113, 114, 115, 116, 117, 118, 119, 120, 121, 122, 123, 124, 125, 126, 127, 128, 129, 130, 131, 132, 133, 134, 135, 136, 137] (by decide +kernel) (by decide +kernel)
set_option maxRecDepth 20000 in
theorem gX8_most_X8_tries : GoodIn wsX8_most (wsV RX8 242 RX8 yX8_tries wsX8_tries) := goodIn_app (goodIn_of _ (by decide +kernel)) ggX8_most_X8_tries
theorem dX8_most_0 : decode cX8_most 0 = .ok (.iload_n 2, 1) := by decide +kernel
theorem dX8_most_1 : decode cX8_most 1 = .ok (.iconst 1, 1) := by decide +kernel
theorem dX8_most_2 : decode cX8_most 2 = .ok (.iconst 3, 1) := by decide +kernel
theorem dX8_most_3 : decode cX8_most 3 = .ok (.invokestatic 121, 3) := by decide +kernel
theorem dX8_most_6 : decode cX8_most 6 = .ok (.ifCond .eq 36, 3) := by decide +kernel
theorem dX8_most_9 : decode cX8_most 9 = .ok (.iload_n 1, 1) := by decide +kernel
theorem dX8_most_10 : decode cX8_most 10 = .ok (.iconst 0, 1) := by decide +kernel
theorem dX8_most_11 : decode cX8_most 11 = .ok (.aload_n 0, 1) := by decide +kernel
theorem dX8_most_12 : decode cX8_most 12 = .ok (.getfield 118, 3) := by decide +kernel
theorem dX8_most_15 : decode cX8_most 15 = .ok (.iload_n 2, 1) := by decide +kernel
theorem dX8_most_16 : decode cX8_most 16 = .ok (.isub, 1) := by decide +kernel
theorem dX8_most_17 : decode cX8_most 17 = .ok (.invokestatic 121, 3) := by decide +kernel
theorem dX8_most_20 : decode cX8_most 20 = .ok (.ifCond .eq 22, 3) := by decide +kernel
theorem dX8_most_23 : decode cX8_most 23 = .ok (.iload_n 3, 1) := by decide +kernel
theorem dX8_most_24 : decode cX8_most 24 = .ok (.iload 4, 2) := by decide +kernel
theorem dX8_most_26 : decode cX8_most 26 = .ok (.invokestatic 236, 3) := by decide +kernel
theorem dX8_most_29 : decode cX8_most 29 = .ok (.ifCond .eq 13, 3) := by decide +kernel
theorem dX8_most_32 : decode cX8_most 32 = .ok (.iload 5, 2) := by decide +kernel
theorem dX8_most_34 : decode cX8_most 34 = .ok (.iconst 0, 1) := by decide +kernel
theorem dX8_most_35 : decode cX8_most 35 = .ok (.iload_n 2, 1) := by decide +kernel
theorem dX8_most_36 : decode cX8_most 36 = .ok (.invokestatic 121, 3) := by decide +kernel
theorem dX8_most_39 : decode cX8_most 39 = .ok (.ifCond .ne 5, 3) := by decide +kernel
theorem dX8_most_42 : decode cX8_most 42 = .ok (.iconst (-1), 1) := by decide +kernel
theorem dX8_most_43 : decode cX8_most 43 = .ok (.ireturn, 1) := by decide +kernel
theorem dX8_most_44 : decode cX8_most 44 = .ok (.aload_n 0, 1) := by decide +kernel
theorem dX8_most_45 : decode cX8_most 45 = .ok (.invokevirtual 239, 3) := by decide +kernel
theorem dX8_most_48 : decode cX8_most 48 = .ok (.iload_n 2, 1) := by decide +kernel
theorem dX8_most_49 : decode cX8_most 49 = .ok (.iconst 1, 1) := by decide +kernel
theorem dX8_most_50 : decode cX8_most 50 = .ok (.if_icmp .ne 7, 3) := by decide +kernel
theorem dX8_most_53 : decode cX8_most 53 = .ok (.iconst 5, 1) := by decide +kernel
theorem dX8_most_54 : decode cX8_most 54 = .ok (.goto 15, 3) := by decide +kernel
theorem dX8_most_57 : decode cX8_most 57 = .ok (.iload_n 2, 1) := by decide +kernel
theorem dX8_most_58 : decode cX8_most 58 = .ok (.iconst 2, 1) := by decide +kernel
theorem dX8_most_59 : decode cX8_most 59 = .ok (.if_icmp .ne 8, 3) := by decide +kernel
theorem dX8_most_62 : decode cX8_most 62 = .ok (.bipush 25, 2) := by decide +kernel
theorem dX8_most_64 : decode cX8_most 64 = .ok (.goto 5, 3) := by decide +kernel
theorem dX8_most_67 : decode cX8_most 67 = .ok (.bipush 125, 2) := by decide +kernel
theorem dX8_most_69 : decode cX8_most 69 = .ok (.istore 6, 2) := by decide +kernel
theorem dX8_most_71 : decode cX8_most 71 = .ok (.iconst (-1), 1) := by decide +kernel
theorem dX8_most_72 : decode cX8_most 72 = .ok (.istore 7, 2) := by decide +kernel
theorem dX8_most_74 : decode cX8_most 74 = .ok (.iconst 0, 1) := by decide +kernel
theorem dX8_most_75 : decode cX8_most 75 = .ok (.istore 8, 2) := by decide +kernel
theorem dX8_most_77 : decode cX8_most 77 = .ok (.iconst 0, 1) := by decide +kernel
theorem dX8_most_78 : decode cX8_most 78 = .ok (.istore 9, 2) := by decide +kernel
theorem dX8_most_80 : decode cX8_most 80 = .ok (.iload 9, 2) := by decide +kernel
theorem dX8_most_82 : decode cX8_most 82 = .ok (.iload 6, 2) := by decide +kernel
theorem dX8_most_84 : decode cX8_most 84 = .ok (.if_icmp .ge 83, 3) := by decide +kernel
theorem dX8_most_87 : decode cX8_most 87 = .ok (.iload 9, 2) := by decide +kernel
theorem dX8_most_89 : decode cX8_most 89 = .ok (.istore 10, 2) := by decide +kernel
theorem dX8_most_91 : decode cX8_most 91 = .ok (.iload_n 2, 1) := by decide +kernel
theorem dX8_most_92 : decode cX8_most 92 = .ok (.iconst 1, 1) := by decide +kernel
theorem dX8_most_93 : decode cX8_most 93 = .ok (.isub, 1) := by decide +kernel
theorem dX8_most_94 : decode cX8_most 94 = .ok (.istore 11, 2) := by decide +kernel
theorem dX8_most_96 : decode cX8_most 96 = .ok (.iload 11, 2) := by decide +kernel
theorem dX8_most_98 : decode cX8_most 98 = .ok (.ifCond .lt 30, 3) := by decide +kernel
theorem dX8_most_101 : decode cX8_most 101 = .ok (.aload_n 0, 1) := by decide +kernel
theorem dX8_most_102 : decode cX8_most 102 = .ok (.getfield 103, 3) := by decide +kernel
theorem dX8_most_105 : decode cX8_most 105 = .ok (.iload_n 1, 1) := by decide +kernel
theorem dX8_most_106 : decode cX8_most 106 = .ok (.iload 11, 2) := by decide +kernel
theorem dX8_most_108 : decode cX8_most 108 = .ok (.iadd, 1) := by decide +kernel
theorem dX8_most_109 : decode cX8_most 109 = .ok (.iconst 5, 1) := by decide +kernel
theorem dX8_most_110 : decode cX8_most 110 = .ok (.iload 10, 2) := by decide +kernel
theorem dX8_most_112 : decode cX8_most 112 = .ok (.iconst 5, 1) := by decide +kernel
theorem dX8_most_113 : decode cX8_most 113 = .ok (.irem, 1) := by decide +kernel
theorem dX8_most_114 : decode cX8_most 114 = .ok (.imul, 1) := by decide +kernel
theorem dX8_most_115 : decode cX8_most 115 = .ok (.iastore, 1) := by decide +kernel
theorem dX8_most_116 : decode cX8_most 116 = .ok (.iload 10, 2) := by decide +kernel
theorem dX8_most_118 : decode cX8_most 118 = .ok (.iconst 5, 1) := by decide +kernel
theorem dX8_most_119 : decode cX8_most 119 = .ok (.idiv, 1) := by decide +kernel
theorem dX8_most_120 : decode cX8_most 120 = .ok (.istore 10, 2) := by decide +kernel
theorem dX8_most_122 : decode cX8_most 122 = .ok (.iinc 11 (-1), 3) := by decide +kernel
theorem dX8_most_125 : decode cX8_most 125 = .ok (.goto (-29), 3) := by decide +kernel
theorem dX8_most_128 : decode cX8_most 128 = .ok (.aload_n 0, 1) := by decide +kernel
theorem dX8_most_129 : decode cX8_most 129 = .ok (.iload_n 3, 1) := by decide +kernel
theorem dX8_most_130 : decode cX8_most 130 = .ok (.iload 4, 2) := by decide +kernel
theorem dX8_most_132 : decode cX8_most 132 = .ok (.invokevirtual 242, 3) := by decide +kernel
theorem dX8_most_135 : decode cX8_most 135 = .ok (.istore 11, 2) := by decide +kernel
theorem dX8_most_137 : decode cX8_most 137 = .ok (.iload 7, 2) := by decide +kernel
theorem dX8_most_139 : decode cX8_most 139 = .ok (.iconst (-1), 1) := by decide +kernel
theorem dX8_most_140 : decode cX8_most 140 = .ok (.if_icmp .eq 13, 3) := by decide +kernel
theorem dX8_most_143 : decode cX8_most 143 = .ok (.iload 11, 2) := by decide +kernel
theorem dX8_most_145 : decode cX8_most 145 = .ok (.iload 7, 2) := by decide +kernel
theorem dX8_most_147 : decode cX8_most 147 = .ok (.if_icmp .gt 6, 3) := by decide +kernel
theorem dX8_most_150 : decode cX8_most 150 = .ok (.goto 11, 3) := by decide +kernel
theorem dX8_most_153 : decode cX8_most 153 = .ok (.iload 11, 2) := by decide +kernel
theorem dX8_most_155 : decode cX8_most 155 = .ok (.istore 7, 2) := by decide +kernel
theorem dX8_most_157 : decode cX8_most 157 = .ok (.iload 9, 2) := by decide +kernel
theorem dX8_most_159 : decode cX8_most 159 = .ok (.istore 8, 2) := by decide +kernel
theorem dX8_most_161 : decode cX8_most 161 = .ok (.iinc 9 1, 3) := by decide +kernel
theorem dX8_most_164 : decode cX8_most 164 = .ok (.goto (-84), 3) := by decide +kernel
theorem dX8_most_167 : decode cX8_most 167 = .ok (.iload 5, 2) := by decide +kernel
theorem dX8_most_169 : decode cX8_most 169 = .ok (.ifCond .ne 6, 3) := by decide +kernel
theorem dX8_most_172 : decode cX8_most 172 = .ok (.iload 7, 2) := by decide +kernel
theorem dX8_most_174 : decode cX8_most 174 = .ok (.ireturn, 1) := by decide +kernel
theorem dX8_most_175 : decode cX8_most 175 = .ok (.iload 5, 2) := by decide +kernel
theorem dX8_most_177 : decode cX8_most 177 = .ok (.istore 9, 2) := by decide +kernel
theorem dX8_most_179 : decode cX8_most 179 = .ok (.iload 9, 2) := by decide +kernel
theorem dX8_most_181 : decode cX8_most 181 = .ok (.iload_n 2, 1) := by decide +kernel
theorem dX8_most_182 : decode cX8_most 182 = .ok (.if_icmp .ge 15, 3) := by decide +kernel
theorem dX8_most_185 : decode cX8_most 185 = .ok (.iload 8, 2) := by decide +kernel
theorem dX8_most_187 : decode cX8_most 187 = .ok (.iconst 5, 1) := by decide +kernel
theorem dX8_most_188 : decode cX8_most 188 = .ok (.idiv, 1) := by decide +kernel
theorem dX8_most_189 : decode cX8_most 189 = .ok (.istore 8, 2) := by decide +kernel
theorem dX8_most_191 : decode cX8_most 191 = .ok (.iinc 9 1, 3) := by decide +kernel
theorem dX8_most_194 : decode cX8_most 194 = .ok (.goto (-15), 3) := by decide +kernel
theorem dX8_most_197 : decode cX8_most 197 = .ok (.iconst 5, 1) := by decide +kernel
theorem dX8_most_198 : decode cX8_most 198 = .ok (.iload 8, 2) := by decide +kernel
theorem dX8_most_200 : decode cX8_most 200 = .ok (.iconst 5, 1) := by decide +kernel
theorem dX8_most_201 : decode cX8_most 201 = .ok (.irem, 1) := by decide +kernel
theorem dX8_most_202 : decode cX8_most 202 = .ok (.imul, 1) := by decide +kernel
theorem dX8_most_203 : decode cX8_most 203 = .ok (.ireturn, 1) := by decide +kernel
theorem dX8_breach_0 : decode cX8_breach 0 = .ok (.iload_n 1, 1) := by decide +kernel
theorem dX8_breach_1 : decode cX8_breach 1 = .ok (.ifCond .ne 10, 3) := by decide +kernel
theorem dX8_breach_4 : decode cX8_breach 4 = .ok (.aload_n 0, 1) := by decide +kernel
theorem dX8_breach_5 : decode cX8_breach 5 = .ok (.getfield 68, 3) := by decide +kernel
theorem dX8_breach_8 : decode cX8_breach 8 = .ok (.goto 28, 3) := by decide +kernel
theorem dX8_breach_11 : decode cX8_breach 11 = .ok (.iload_n 1, 1) := by decide +kernel
theorem dX8_breach_12 : decode cX8_breach 12 = .ok (.iconst 1, 1) := by decide +kernel
theorem dX8_breach_13 : decode cX8_breach 13 = .ok (.if_icmp .ne 10, 3) := by decide +kernel
theorem dX8_breach_16 : decode cX8_breach 16 = .ok (.aload_n 0, 1) := by decide +kernel
theorem dX8_breach_17 : decode cX8_breach 17 = .ok (.getfield 72, 3) := by decide +kernel
theorem dX8_breach_20 : decode cX8_breach 20 = .ok (.goto 16, 3) := by decide +kernel
theorem dX8_breach_23 : decode cX8_breach 23 = .ok (.iload_n 1, 1) := by decide +kernel
theorem dX8_breach_24 : decode cX8_breach 24 = .ok (.iconst 2, 1) := by decide +kernel
theorem dX8_breach_25 : decode cX8_breach 25 = .ok (.if_icmp .ne 10, 3) := by decide +kernel
theorem dX8_breach_28 : decode cX8_breach 28 = .ok (.aload_n 0, 1) := by decide +kernel
theorem dX8_breach_29 : decode cX8_breach 29 = .ok (.getfield 75, 3) := by decide +kernel
theorem dX8_breach_32 : decode cX8_breach 32 = .ok (.goto 4, 3) := by decide +kernel
theorem dX8_breach_35 : decode cX8_breach 35 = .ok (.iconst (-1), 1) := by decide +kernel
theorem dX8_breach_36 : decode cX8_breach 36 = .ok (.ireturn, 1) := by decide +kernel
theorem dX8_count_0 : decode cX8_count 0 = .ok (.iload_n 1, 1) := by decide +kernel
theorem dX8_count_1 : decode cX8_count 1 = .ok (.tableswitch 129 0 9 #[55, 60, 65, 70, 99, 104, 109, 114, 119, 124], 55) := by decide +kernel
theorem dX8_count_56 : decode cX8_count 56 = .ok (.aload_n 0, 1) := by decide +kernel
theorem dX8_count_57 : decode cX8_count 57 = .ok (.getfield 129, 3) := by decide +kernel
theorem dX8_count_60 : decode cX8_count 60 = .ok (.ireturn, 1) := by decide +kernel
theorem dX8_count_61 : decode cX8_count 61 = .ok (.aload_n 0, 1) := by decide +kernel
theorem dX8_count_62 : decode cX8_count 62 = .ok (.getfield 118, 3) := by decide +kernel
theorem dX8_count_65 : decode cX8_count 65 = .ok (.ireturn, 1) := by decide +kernel
theorem dX8_count_66 : decode cX8_count 66 = .ok (.aload_n 0, 1) := by decide +kernel
theorem dX8_count_67 : decode cX8_count 67 = .ok (.getfield 139, 3) := by decide +kernel
theorem dX8_count_70 : decode cX8_count 70 = .ok (.ireturn, 1) := by decide +kernel
theorem dX8_count_71 : decode cX8_count 71 = .ok (.iconst 0, 1) := by decide +kernel
theorem dX8_count_72 : decode cX8_count 72 = .ok (.istore_n 2, 1) := by decide +kernel
theorem dX8_count_73 : decode cX8_count 73 = .ok (.iconst 0, 1) := by decide +kernel
theorem dX8_count_74 : decode cX8_count 74 = .ok (.istore_n 3, 1) := by decide +kernel
theorem dX8_count_75 : decode cX8_count 75 = .ok (.iload_n 3, 1) := by decide +kernel
theorem dX8_count_76 : decode cX8_count 76 = .ok (.aload_n 0, 1) := by decide +kernel
theorem dX8_count_77 : decode cX8_count 77 = .ok (.getfield 118, 3) := by decide +kernel
theorem dX8_count_80 : decode cX8_count 80 = .ok (.if_icmp .ge 18, 3) := by decide +kernel
theorem dX8_count_83 : decode cX8_count 83 = .ok (.iload_n 2, 1) := by decide +kernel
theorem dX8_count_84 : decode cX8_count 84 = .ok (.aload_n 0, 1) := by decide +kernel
theorem dX8_count_85 : decode cX8_count 85 = .ok (.getfield 19, 3) := by decide +kernel
theorem dX8_count_88 : decode cX8_count 88 = .ok (.iload_n 3, 1) := by decide +kernel
theorem dX8_count_89 : decode cX8_count 89 = .ok (.iaload, 1) := by decide +kernel
theorem dX8_count_90 : decode cX8_count 90 = .ok (.iadd, 1) := by decide +kernel
theorem dX8_count_91 : decode cX8_count 91 = .ok (.istore_n 2, 1) := by decide +kernel
theorem dX8_count_92 : decode cX8_count 92 = .ok (.iinc 3 1, 3) := by decide +kernel
theorem dX8_count_95 : decode cX8_count 95 = .ok (.goto (-20), 3) := by decide +kernel
theorem dX8_count_98 : decode cX8_count 98 = .ok (.iload_n 2, 1) := by decide +kernel
theorem dX8_count_99 : decode cX8_count 99 = .ok (.ireturn, 1) := by decide +kernel
theorem dX8_count_100 : decode cX8_count 100 = .ok (.aload_n 0, 1) := by decide +kernel
theorem dX8_count_101 : decode cX8_count 101 = .ok (.getfield 226, 3) := by decide +kernel
theorem dX8_count_104 : decode cX8_count 104 = .ok (.ireturn, 1) := by decide +kernel
theorem dX8_count_105 : decode cX8_count 105 = .ok (.aload_n 0, 1) := by decide +kernel
theorem dX8_count_106 : decode cX8_count 106 = .ok (.getfield 217, 3) := by decide +kernel
theorem dX8_count_109 : decode cX8_count 109 = .ok (.ireturn, 1) := by decide +kernel
theorem dX8_count_110 : decode cX8_count 110 = .ok (.aload_n 0, 1) := by decide +kernel
theorem dX8_count_111 : decode cX8_count 111 = .ok (.getfield 220, 3) := by decide +kernel
theorem dX8_count_114 : decode cX8_count 114 = .ok (.ireturn, 1) := by decide +kernel
theorem dX8_count_115 : decode cX8_count 115 = .ok (.aload_n 0, 1) := by decide +kernel
theorem dX8_count_116 : decode cX8_count 116 = .ok (.getfield 223, 3) := by decide +kernel
theorem dX8_count_119 : decode cX8_count 119 = .ok (.ireturn, 1) := by decide +kernel
theorem dX8_count_120 : decode cX8_count 120 = .ok (.aload_n 0, 1) := by decide +kernel
theorem dX8_count_121 : decode cX8_count 121 = .ok (.getfield 146, 3) := by decide +kernel
theorem dX8_count_124 : decode cX8_count 124 = .ok (.ireturn, 1) := by decide +kernel
theorem dX8_count_125 : decode cX8_count 125 = .ok (.aload_n 0, 1) := by decide +kernel
theorem dX8_count_126 : decode cX8_count 126 = .ok (.getfield 136, 3) := by decide +kernel
theorem dX8_count_129 : decode cX8_count 129 = .ok (.ireturn, 1) := by decide +kernel
theorem dX8_count_130 : decode cX8_count 130 = .ok (.iconst (-1), 1) := by decide +kernel
theorem dX8_count_131 : decode cX8_count 131 = .ok (.ireturn, 1) := by decide +kernel
theorem dJ9_max_7cf53_0 : decode cJ9_max_7cf53 0 = .ok (.iload_n 0, 1) := by decide +kernel
theorem dJ9_max_7cf53_1 : decode cJ9_max_7cf53 1 = .ok (.iload_n 1, 1) := by decide +kernel
theorem dJ9_max_7cf53_2 : decode cJ9_max_7cf53 2 = .ok (.if_icmp .lt 7, 3) := by decide +kernel
theorem dJ9_max_7cf53_5 : decode cJ9_max_7cf53 5 = .ok (.iload_n 0, 1) := by decide +kernel
theorem dJ9_max_7cf53_6 : decode cJ9_max_7cf53 6 = .ok (.goto 4, 3) := by decide +kernel
theorem dJ9_max_7cf53_9 : decode cJ9_max_7cf53 9 = .ok (.iload_n 1, 1) := by decide +kernel
theorem dJ9_max_7cf53_10 : decode cJ9_max_7cf53 10 = .ok (.ireturn, 1) := by decide +kernel
theorem dJ9_min_7cf53_0 : decode cJ9_min_7cf53 0 = .ok (.iload_n 0, 1) := by decide +kernel
theorem dJ9_min_7cf53_1 : decode cJ9_min_7cf53 1 = .ok (.iload_n 1, 1) := by decide +kernel
theorem dJ9_min_7cf53_2 : decode cJ9_min_7cf53 2 = .ok (.if_icmp .gt 7, 3) := by decide +kernel
theorem dJ9_min_7cf53_5 : decode cJ9_min_7cf53 5 = .ok (.iload_n 0, 1) := by decide +kernel
theorem dJ9_min_7cf53_6 : decode cJ9_min_7cf53 6 = .ok (.goto 4, 3) := by decide +kernel
theorem dJ9_min_7cf53_9 : decode cJ9_min_7cf53 9 = .ok (.iload_n 1, 1) := by decide +kernel
theorem dJ9_min_7cf53_10 : decode cJ9_min_7cf53 10 = .ok (.ireturn, 1) := by decide +kernel
set_option maxRecDepth 20000 in
theorem ggJ0_length_8abf5_J0_coder_7d493 : GoodIn wsJ0_length_8abf5 wsJ0_coder_7d493 := goodIn_r _ [6, 7, 8] (by decide +kernel) (by decide +kernel)
set_option maxRecDepth 20000 in
theorem gJ0_length_8abf5_J0_coder_7d493 : GoodIn wsJ0_length_8abf5 (wsV RJ0 335 RJ0 yJ0_coder_7d493 wsJ0_coder_7d493) := goodIn_app (goodIn_of _ (by decide +kernel)) ggJ0_length_8abf5_J0_coder_7d493
theorem dJ0_length_8abf5_0 : decode cJ0_length_8abf5 0 = .ok (.aload_n 0, 1) := by decide +kernel
theorem dJ0_length_8abf5_1 : decode cJ0_length_8abf5 1 = .ok (.getfield 9, 3) := by decide +kernel
theorem dJ0_length_8abf5_4 : decode cJ0_length_8abf5 4 = .ok (.arraylength, 1) := by decide +kernel
theorem dJ0_length_8abf5_5 : decode cJ0_length_8abf5 5 = .ok (.aload_n 0, 1) := by decide +kernel
theorem dJ0_length_8abf5_6 : decode cJ0_length_8abf5 6 = .ok (.invokevirtual 335, 3) := by decide +kernel
theorem dJ0_length_8abf5_9 : decode cJ0_length_8abf5 9 = .ok (.ishr, 1) := by decide +kernel
theorem dJ0_length_8abf5_10 : decode cJ0_length_8abf5 10 = .ok (.ireturn, 1) := by decide +kernel
set_option maxRecDepth 20000 in
theorem ggJ0_charAt_5068e_J0_isLatin1_aae02 : GoodIn wsJ0_charAt_5068e wsJ0_isLatin1_aae02 := goodIn_r _ [6, 7, 8] (by decide +kernel) (by decide +kernel)
set_option maxRecDepth 20000 in
theorem gJ0_charAt_5068e_J0_isLatin1_aae02 : GoodIn wsJ0_charAt_5068e (wsV RJ0 492 RJ0 yJ0_isLatin1_aae02 wsJ0_isLatin1_aae02) := goodIn_app (goodIn_of _ (by decide +kernel)) ggJ0_charAt_5068e_J0_isLatin1_aae02
set_option maxRecDepth 20000 in
theorem ggJ0_charAt_5068e_J1_charAt_3b067 : GoodIn wsJ0_charAt_5068e wsJ1_charAt_3b067 := goodIn_r _ [12, 13, 14, 5, 15, 16, 17, 18, 19, 20] (by decide +kernel) (by decide +kernel)
set_option maxRecDepth 20000 in
theorem gJ0_charAt_5068e_J1_charAt_3b067 : GoodIn wsJ0_charAt_5068e (va_wsS RJ0 495 yJ1_charAt_3b067 wsJ1_charAt_3b067) := goodIn_app (goodIn_of _ (by decide +kernel)) ggJ0_charAt_5068e_J1_charAt_3b067
set_option maxRecDepth 20000 in
theorem ggJ0_charAt_5068e_J2_charAt_3b067 : GoodIn wsJ0_charAt_5068e wsJ2_charAt_3b067 := goodIn_r _ [24, 25, 26, 23, 27, 28, 29, 30, 31, 14, 5, 15, 16, 17, 18, 19, 20, 32, 33, 34, 35, 36, 37] (by decide +kernel) (by decide +kernel)
set_option maxRecDepth 20000 in
theorem gJ0_charAt_5068e_J2_charAt_3b067 : GoodIn wsJ0_charAt_5068e (va_wsS RJ0 498 yJ2_charAt_3b067 wsJ2_charAt_3b067) := goodIn_app (goodIn_of _ (by decide +kernel)) ggJ0_charAt_5068e_J2_charAt_3b067
theorem dJ0_charAt_5068e_0 : decode cJ0_charAt_5068e 0 = .ok (.aload_n 0, 1) := by decide +kernel
theorem dJ0_charAt_5068e_1 : decode cJ0_charAt_5068e 1 = .ok (.invokevirtual 492, 3) := by decide +kernel
theorem dJ0_charAt_5068e_4 : decode cJ0_charAt_5068e 4 = .ok (.ifCond .eq 12, 3) := by decide +kernel
theorem dJ0_charAt_5068e_7 : decode cJ0_charAt_5068e 7 = .ok (.aload_n 0, 1) := by decide +kernel
theorem dJ0_charAt_5068e_8 : decode cJ0_charAt_5068e 8 = .ok (.getfield 9, 3) := by decide +kernel
theorem dJ0_charAt_5068e_11 : decode cJ0_charAt_5068e 11 = .ok (.iload_n 1, 1) := by decide +kernel
theorem dJ0_charAt_5068e_12 : decode cJ0_charAt_5068e 12 = .ok (.invokestatic 495, 3) := by decide +kernel
theorem dJ0_charAt_5068e_15 : decode cJ0_charAt_5068e 15 = .ok (.ireturn, 1) := by decide +kernel
theorem dJ0_charAt_5068e_16 : decode cJ0_charAt_5068e 16 = .ok (.aload_n 0, 1) := by decide +kernel
theorem dJ0_charAt_5068e_17 : decode cJ0_charAt_5068e 17 = .ok (.getfield 9, 3) := by decide +kernel
theorem dJ0_charAt_5068e_20 : decode cJ0_charAt_5068e 20 = .ok (.iload_n 1, 1) := by decide +kernel
theorem dJ0_charAt_5068e_21 : decode cJ0_charAt_5068e 21 = .ok (.invokestatic 498, 3) := by decide +kernel
theorem dJ0_charAt_5068e_24 : decode cJ0_charAt_5068e 24 = .ok (.ireturn, 1) := by decide +kernel
theorem dJ0_coder_7d493_0 : decode cJ0_coder_7d493 0 = .ok (.getstatic 38, 3) := by decide +kernel
theorem dJ0_coder_7d493_3 : decode cJ0_coder_7d493 3 = .ok (.ifCond .eq 10, 3) := by decide +kernel
theorem dJ0_coder_7d493_6 : decode cJ0_coder_7d493 6 = .ok (.aload_n 0, 1) := by decide +kernel
theorem dJ0_coder_7d493_7 : decode cJ0_coder_7d493 7 = .ok (.getfield 15, 3) := by decide +kernel
theorem dJ0_coder_7d493_10 : decode cJ0_coder_7d493 10 = .ok (.goto 4, 3) := by decide +kernel
theorem dJ0_coder_7d493_13 : decode cJ0_coder_7d493 13 = .ok (.iconst 1, 1) := by decide +kernel
theorem dJ0_coder_7d493_14 : decode cJ0_coder_7d493 14 = .ok (.ireturn, 1) := by decide +kernel
theorem dJ0_isLatin1_aae02_0 : decode cJ0_isLatin1_aae02 0 = .ok (.getstatic 38, 3) := by decide +kernel
theorem dJ0_isLatin1_aae02_3 : decode cJ0_isLatin1_aae02 3 = .ok (.ifCond .eq 14, 3) := by decide +kernel
theorem dJ0_isLatin1_aae02_6 : decode cJ0_isLatin1_aae02 6 = .ok (.aload_n 0, 1) := by decide +kernel
theorem dJ0_isLatin1_aae02_7 : decode cJ0_isLatin1_aae02 7 = .ok (.getfield 15, 3) := by decide +kernel
theorem dJ0_isLatin1_aae02_10 : decode cJ0_isLatin1_aae02 10 = .ok (.ifCond .ne 7, 3) := by decide +kernel
theorem dJ0_isLatin1_aae02_13 : decode cJ0_isLatin1_aae02 13 = .ok (.iconst 1, 1) := by decide +kernel
theorem dJ0_isLatin1_aae02_14 : decode cJ0_isLatin1_aae02 14 = .ok (.goto 4, 3) := by decide +kernel
theorem dJ0_isLatin1_aae02_17 : decode cJ0_isLatin1_aae02 17 = .ok (.iconst 0, 1) := by decide +kernel
theorem dJ0_isLatin1_aae02_18 : decode cJ0_isLatin1_aae02 18 = .ok (.ireturn, 1) := by decide +kernel
set_option maxRecDepth 20000 in
theorem ggJ0_checkIndex_df160_J3_checkIndex_8e157 : GoodIn wsJ0_checkIndex_df160 wsJ3_checkIndex_8e157 := goodIn_r _ [5] (by decide +kernel) (by decide +kernel)
set_option maxRecDepth 20000 in
theorem gJ0_checkIndex_df160_J3_checkIndex_8e157 : GoodIn wsJ0_checkIndex_df160 (va_wsS RJ0 1059 yJ3_checkIndex_8e157 wsJ3_checkIndex_8e157) := goodIn_app (goodIn_of _ (by decide +kernel)) ggJ0_checkIndex_df160_J3_checkIndex_8e157
theorem dJ0_checkIndex_df160_0 : decode cJ0_checkIndex_df160 0 = .ok (.iload_n 0, 1) := by decide +kernel
theorem dJ0_checkIndex_df160_1 : decode cJ0_checkIndex_df160 1 = .ok (.iload_n 1, 1) := by decide +kernel
theorem dJ0_checkIndex_df160_2 : decode cJ0_checkIndex_df160 2 = .ok (.getstatic 1053, 3) := by decide +kernel
theorem dJ0_checkIndex_df160_5 : decode cJ0_checkIndex_df160 5 = .ok (.invokestatic 1059, 3) := by decide +kernel
theorem dJ0_checkIndex_df160_8 : decode cJ0_checkIndex_df160 8 = .ok (.pop, 1) := by decide +kernel
theorem dJ0_checkIndex_df160_9 : decode cJ0_checkIndex_df160 9 = .ok (.return_, 1) := by decide +kernel
set_option maxRecDepth 20000 in
theorem ggJ1_charAt_3b067_J0_checkIndex_df160 : GoodIn wsJ1_charAt_3b067 wsJ0_checkIndex_df160 := goodIn_r _ [4, 5, 6, 7, 8, 9] (by decide +kernel) (by decide +kernel)
set_option maxRecDepth 20000 in
theorem gJ1_charAt_3b067_J0_checkIndex_df160 : GoodIn wsJ1_charAt_3b067 (va_wsS RJ1 9 yJ0_checkIndex_df160 wsJ0_checkIndex_df160) := goodIn_app (goodIn_of _ (by decide +kernel)) ggJ1_charAt_3b067_J0_checkIndex_df160
theorem dJ1_charAt_3b067_0 : decode cJ1_charAt_3b067 0 = .ok (.iload_n 1, 1) := by decide +kernel
theorem dJ1_charAt_3b067_1 : decode cJ1_charAt_3b067 1 = .ok (.aload_n 0, 1) := by decide +kernel
theorem dJ1_charAt_3b067_2 : decode cJ1_charAt_3b067 2 = .ok (.arraylength, 1) := by decide +kernel
theorem dJ1_charAt_3b067_3 : decode cJ1_charAt_3b067 3 = .ok (.invokestatic 9, 3) := by decide +kernel
theorem dJ1_charAt_3b067_6 : decode cJ1_charAt_3b067 6 = .ok (.aload_n 0, 1) := by decide +kernel
theorem dJ1_charAt_3b067_7 : decode cJ1_charAt_3b067 7 = .ok (.iload_n 1, 1) := by decide +kernel
theorem dJ1_charAt_3b067_8 : decode cJ1_charAt_3b067 8 = .ok (.baload, 1) := by decide +kernel
theorem dJ1_charAt_3b067_9 : decode cJ1_charAt_3b067 9 = .ok (.sipush 255, 3) := by decide +kernel
theorem dJ1_charAt_3b067_12 : decode cJ1_charAt_3b067 12 = .ok (.iand, 1) := by decide +kernel
theorem dJ1_charAt_3b067_13 : decode cJ1_charAt_3b067 13 = .ok (.i2c, 1) := by decide +kernel
theorem dJ1_charAt_3b067_14 : decode cJ1_charAt_3b067 14 = .ok (.ireturn, 1) := by decide +kernel
set_option maxRecDepth 20000 in
theorem ggJ2_getChar_3b067_J2_length_9d52b : GoodIn wsJ2_getChar_3b067 wsJ2_length_9d52b := goodIn_r _ [7] (by decide +kernel) (by decide +kernel)
set_option maxRecDepth 20000 in
theorem gJ2_getChar_3b067_J2_length_9d52b : GoodIn wsJ2_getChar_3b067 (va_wsS RJ2 48 yJ2_length_9d52b wsJ2_length_9d52b) := goodIn_app (goodIn_of _ (by decide +kernel)) ggJ2_getChar_3b067_J2_length_9d52b
theorem dJ2_getChar_3b067_0 : decode cJ2_getChar_3b067 0 = .ok (.getstatic 44, 3) := by decide +kernel
theorem dJ2_getChar_3b067_3 : decode cJ2_getChar_3b067 3 = .ok (.ifCond .ne 25, 3) := by decide +kernel
theorem dJ2_getChar_3b067_6 : decode cJ2_getChar_3b067 6 = .ok (.iload_n 1, 1) := by decide +kernel
theorem dJ2_getChar_3b067_7 : decode cJ2_getChar_3b067 7 = .ok (.ifCond .lt 11, 3) := by decide +kernel
theorem dJ2_getChar_3b067_10 : decode cJ2_getChar_3b067 10 = .ok (.iload_n 1, 1) := by decide +kernel
theorem dJ2_getChar_3b067_11 : decode cJ2_getChar_3b067 11 = .ok (.aload_n 0, 1) := by decide +kernel
theorem dJ2_getChar_3b067_12 : decode cJ2_getChar_3b067 12 = .ok (.invokestatic 48, 3) := by decide +kernel
theorem dJ2_getChar_3b067_15 : decode cJ2_getChar_3b067 15 = .ok (.if_icmp .lt 13, 3) := by decide +kernel
theorem dJ2_getChar_3b067_18 : decode cJ2_getChar_3b067 18 = .ok (.new 52, 3) := by decide +kernel
theorem dJ2_getChar_3b067_21 : decode cJ2_getChar_3b067 21 = .ok (.dup, 1) := by decide +kernel
theorem dJ2_getChar_3b067_22 : decode cJ2_getChar_3b067 22 = .ok (.ldc 54, 2) := by decide +kernel
theorem dJ2_getChar_3b067_24 : decode cJ2_getChar_3b067 24 = .ok (.invokespecial 56, 3) := by decide +kernel
theorem dJ2_getChar_3b067_27 : decode cJ2_getChar_3b067 27 = .ok (.athrow, 1) := by decide +kernel
theorem dJ2_getChar_3b067_28 : decode cJ2_getChar_3b067 28 = .ok (.iload_n 1, 1) := by decide +kernel
theorem dJ2_getChar_3b067_29 : decode cJ2_getChar_3b067 29 = .ok (.iconst 1, 1) := by decide +kernel
theorem dJ2_getChar_3b067_30 : decode cJ2_getChar_3b067 30 = .ok (.ishl, 1) := by decide +kernel
theorem dJ2_getChar_3b067_31 : decode cJ2_getChar_3b067 31 = .ok (.istore_n 1, 1) := by decide +kernel
theorem dJ2_getChar_3b067_32 : decode cJ2_getChar_3b067 32 = .ok (.aload_n 0, 1) := by decide +kernel
theorem dJ2_getChar_3b067_33 : decode cJ2_getChar_3b067 33 = .ok (.iload_n 1, 1) := by decide +kernel
theorem dJ2_getChar_3b067_34 : decode cJ2_getChar_3b067 34 = .ok (.iinc 1 1, 3) := by decide +kernel
theorem dJ2_getChar_3b067_37 : decode cJ2_getChar_3b067 37 = .ok (.baload, 1) := by decide +kernel
theorem dJ2_getChar_3b067_38 : decode cJ2_getChar_3b067 38 = .ok (.sipush 255, 3) := by decide +kernel
theorem dJ2_getChar_3b067_41 : decode cJ2_getChar_3b067 41 = .ok (.iand, 1) := by decide +kernel
theorem dJ2_getChar_3b067_42 : decode cJ2_getChar_3b067 42 = .ok (.getstatic 59, 3) := by decide +kernel
theorem dJ2_getChar_3b067_45 : decode cJ2_getChar_3b067 45 = .ok (.ishl, 1) := by decide +kernel
theorem dJ2_getChar_3b067_46 : decode cJ2_getChar_3b067 46 = .ok (.aload_n 0, 1) := by decide +kernel
theorem dJ2_getChar_3b067_47 : decode cJ2_getChar_3b067 47 = .ok (.iload_n 1, 1) := by decide +kernel
theorem dJ2_getChar_3b067_48 : decode cJ2_getChar_3b067 48 = .ok (.baload, 1) := by decide +kernel
theorem dJ2_getChar_3b067_49 : decode cJ2_getChar_3b067 49 = .ok (.sipush 255, 3) := by decide +kernel
theorem dJ2_getChar_3b067_52 : decode cJ2_getChar_3b067 52 = .ok (.iand, 1) := by decide +kernel
theorem dJ2_getChar_3b067_53 : decode cJ2_getChar_3b067 53 = .ok (.getstatic 63, 3) := by decide +kernel
theorem dJ2_getChar_3b067_56 : decode cJ2_getChar_3b067 56 = .ok (.ishl, 1) := by decide +kernel
theorem dJ2_getChar_3b067_57 : decode cJ2_getChar_3b067 57 = .ok (.ior, 1) := by decide +kernel
theorem dJ2_getChar_3b067_58 : decode cJ2_getChar_3b067 58 = .ok (.i2c, 1) := by decide +kernel
theorem dJ2_getChar_3b067_59 : decode cJ2_getChar_3b067 59 = .ok (.ireturn, 1) := by decide +kernel
theorem dJ2_length_9d52b_0 : decode cJ2_length_9d52b 0 = .ok (.aload_n 0, 1) := by decide +kernel
theorem dJ2_length_9d52b_1 : decode cJ2_length_9d52b 1 = .ok (.arraylength, 1) := by decide +kernel
theorem dJ2_length_9d52b_2 : decode cJ2_length_9d52b 2 = .ok (.iconst 1, 1) := by decide +kernel
theorem dJ2_length_9d52b_3 : decode cJ2_length_9d52b 3 = .ok (.ishr, 1) := by decide +kernel
theorem dJ2_length_9d52b_4 : decode cJ2_length_9d52b 4 = .ok (.ireturn, 1) := by decide +kernel
set_option maxRecDepth 20000 in
theorem ggJ2_charAt_3b067_J2_checkIndex_2214a : GoodIn wsJ2_charAt_3b067 wsJ2_checkIndex_2214a := goodIn_r _ [4, 5, 6, 3, 7, 8, 9, 10, 11, 12, 13, 14, 15, 16] (by decide +kernel) (by decide +kernel)
set_option maxRecDepth 20000 in
theorem gJ2_charAt_3b067_J2_checkIndex_2214a : GoodIn wsJ2_charAt_3b067 (va_wsS RJ2 67 yJ2_checkIndex_2214a wsJ2_checkIndex_2214a) := goodIn_app (goodIn_of _ (by decide +kernel)) ggJ2_charAt_3b067_J2_checkIndex_2214a
set_option maxRecDepth 20000 in
theorem ggJ2_charAt_3b067_J2_getChar_3b067 : GoodIn wsJ2_charAt_3b067 wsJ2_getChar_3b067 := goodIn_r _ [19, 20, 21, 22, 5, 6, 3, 7] (by decide +kernel) (by decide +kernel)
set_option maxRecDepth 20000 in
theorem gJ2_charAt_3b067_J2_getChar_3b067 : GoodIn wsJ2_charAt_3b067 (va_wsS RJ2 71 yJ2_getChar_3b067 wsJ2_getChar_3b067) := goodIn_app (goodIn_of _ (by decide +kernel)) ggJ2_charAt_3b067_J2_getChar_3b067
theorem dJ2_charAt_3b067_0 : decode cJ2_charAt_3b067 0 = .ok (.iload_n 1, 1) := by decide +kernel
theorem dJ2_charAt_3b067_1 : decode cJ2_charAt_3b067 1 = .ok (.aload_n 0, 1) := by decide +kernel
theorem dJ2_charAt_3b067_2 : decode cJ2_charAt_3b067 2 = .ok (.invokestatic 67, 3) := by decide +kernel
theorem dJ2_charAt_3b067_5 : decode cJ2_charAt_3b067 5 = .ok (.aload_n 0, 1) := by decide +kernel
theorem dJ2_charAt_3b067_6 : decode cJ2_charAt_3b067 6 = .ok (.iload_n 1, 1) := by decide +kernel
theorem dJ2_charAt_3b067_7 : decode cJ2_charAt_3b067 7 = .ok (.invokestatic 71, 3) := by decide +kernel
theorem dJ2_charAt_3b067_10 : decode cJ2_charAt_3b067 10 = .ok (.ireturn, 1) := by decide +kernel
set_option maxRecDepth 20000 in
theorem ggJ2_checkIndex_2214a_J2_length_9d52b : GoodIn wsJ2_checkIndex_2214a wsJ2_length_9d52b := goodIn_r _ [4] (by decide +kernel) (by decide +kernel)
set_option maxRecDepth 20000 in
theorem gJ2_checkIndex_2214a_J2_length_9d52b : GoodIn wsJ2_checkIndex_2214a (va_wsS RJ2 48 yJ2_length_9d52b wsJ2_length_9d52b) := goodIn_app (goodIn_of _ (by decide +kernel)) ggJ2_checkIndex_2214a_J2_length_9d52b
set_option maxRecDepth 20000 in
theorem ggJ2_checkIndex_2214a_J0_checkIndex_df160 : GoodIn wsJ2_checkIndex_2214a wsJ0_checkIndex_df160 := goodIn_r _ [8, 9, 10, 11, 12, 13] (by decide +kernel) (by decide +kernel)
set_option maxRecDepth 20000 in
theorem gJ2_checkIndex_2214a_J0_checkIndex_df160 : GoodIn wsJ2_checkIndex_2214a (va_wsS RJ2 414 yJ0_checkIndex_df160 wsJ0_checkIndex_df160) := goodIn_app (goodIn_of _ (by decide +kernel)) ggJ2_checkIndex_2214a_J0_checkIndex_df160
theorem dJ2_checkIndex_2214a_0 : decode cJ2_checkIndex_2214a 0 = .ok (.iload_n 0, 1) := by decide +kernel
theorem dJ2_checkIndex_2214a_1 : decode cJ2_checkIndex_2214a 1 = .ok (.aload_n 1, 1) := by decide +kernel
theorem dJ2_checkIndex_2214a_2 : decode cJ2_checkIndex_2214a 2 = .ok (.invokestatic 48, 3) := by decide +kernel
theorem dJ2_checkIndex_2214a_5 : decode cJ2_checkIndex_2214a 5 = .ok (.invokestatic 414, 3) := by decide +kernel
theorem dJ2_checkIndex_2214a_8 : decode cJ2_checkIndex_2214a 8 = .ok (.return_, 1) := by decide +kernel
theorem dJ3_checkIndex_8e157_0 : decode cJ3_checkIndex_8e157 0 = .ok (.iload_n 0, 1) := by decide +kernel
theorem dJ3_checkIndex_8e157_1 : decode cJ3_checkIndex_8e157 1 = .ok (.ifCond .lt 8, 3) := by decide +kernel
theorem dJ3_checkIndex_8e157_4 : decode cJ3_checkIndex_8e157 4 = .ok (.iload_n 0, 1) := by decide +kernel
theorem dJ3_checkIndex_8e157_5 : decode cJ3_checkIndex_8e157 5 = .ok (.iload_n 1, 1) := by decide +kernel
theorem dJ3_checkIndex_8e157_6 : decode cJ3_checkIndex_8e157 6 = .ok (.if_icmp .lt 10, 3) := by decide +kernel
theorem dJ3_checkIndex_8e157_9 : decode cJ3_checkIndex_8e157 9 = .ok (.aload_n 2, 1) := by decide +kernel
theorem dJ3_checkIndex_8e157_10 : decode cJ3_checkIndex_8e157 10 = .ok (.iload_n 0, 1) := by decide +kernel
theorem dJ3_checkIndex_8e157_11 : decode cJ3_checkIndex_8e157 11 = .ok (.iload_n 1, 1) := by decide +kernel
theorem dJ3_checkIndex_8e157_12 : decode cJ3_checkIndex_8e157 12 = .ok (.invokestatic 95, 3) := by decide +kernel
theorem dJ3_checkIndex_8e157_15 : decode cJ3_checkIndex_8e157 15 = .ok (.athrow, 1) := by decide +kernel
theorem dJ3_checkIndex_8e157_16 : decode cJ3_checkIndex_8e157 16 = .ok (.iload_n 0, 1) := by decide +kernel
theorem dJ3_checkIndex_8e157_17 : decode cJ3_checkIndex_8e157 17 = .ok (.ireturn, 1) := by decide +kernel
theorem dL_cell_0 : decode cL_cell 0 = .ok (.iload_n 1, 1) := by decide +kernel
theorem dL_cell_1 : decode cL_cell 1 = .ok (.aload_n 0, 1) := by decide +kernel
theorem dL_cell_2 : decode cL_cell 2 = .ok (.arraylength, 1) := by decide +kernel
theorem dL_cell_3 : decode cL_cell 3 = .ok (.if_icmp .ge 9, 3) := by decide +kernel
theorem dL_cell_6 : decode cL_cell 6 = .ok (.aload_n 0, 1) := by decide +kernel
theorem dL_cell_7 : decode cL_cell 7 = .ok (.iload_n 1, 1) := by decide +kernel
theorem dL_cell_8 : decode cL_cell 8 = .ok (.iaload, 1) := by decide +kernel
theorem dL_cell_9 : decode cL_cell 9 = .ok (.goto 4, 3) := by decide +kernel
theorem dL_cell_12 : decode cL_cell 12 = .ok (.iconst 0, 1) := by decide +kernel
theorem dL_cell_13 : decode cL_cell 13 = .ok (.ireturn, 1) := by decide +kernel
set_option maxRecDepth 20000 in
theorem ggL_law_L_cell : GoodIn wsL_law wsL_cell := goodIn_r _ [9] (by decide +kernel) (by decide +kernel)
set_option maxRecDepth 20000 in
theorem gL_law_L_cell : GoodIn wsL_law (va_wsS RL 9 yL_cell wsL_cell) := goodIn_app (goodIn_of _ (by decide +kernel)) ggL_law_L_cell
set_option maxRecDepth 20000 in
theorem ggL_law_X7_init : GoodIn wsL_law wsX7_init := goodIn_r _ [12, 13, 14, 15, 16, 17, 18, 19, 20, 21, 22, 23, 24, 25, 26, 27, 28, 29, 30, 31, 32, 33, 34, 35, 36, 37, 38, 39, 40, 41, 42, 43, 44, 45, 46, 47, 48, 49, 50, 51, 52, 53, 54, 55, 56, 57, 58, 59, 60, 61, 62, 63, 64, 65, 66, 67, 68, 69, 70, 71, 72, 73, 74, 75, 76, 77, 78, 79, 80, 81, 82, 83, 84, 85, 86, 87, 88, 89, 90, 91, 92, 93, 94, 95, 96, 97, 98, 99, 100, 101, 102, 103, 104, 105, 106, 107, 108, 109, 110, 111, 112, 113, 114, 716, 717, 718, 719, 720, 721, 722, 723, 724, 725, 726, 727, 728, 729, 730, 778, 779, 780, 781, 782, 783, 784, 785, 786, 787, 788, 789, 790, 791, 792, 793, 794, 795, 796, 797, 798, 799, 800, 801, 802, 803, 804, 805, 806, 807, 808, 809, 810, 811, 812] (by decide +kernel) (by decide +kernel)
set_option maxRecDepth 20000 in
theorem gL_law_X7_init : GoodIn wsL_law (wsX7_init) := ggL_law_X7_init
set_option maxRecDepth 20000 in
theorem ggL_law_X8_init : GoodIn wsL_law wsX8_init := goodIn_r _ [117, 118, 14, 15, 67, 119, 120, 121, 122, 123, 124, 125, 126, 127, 128, 129, 130, 131, 132, 133, 134, 135, 136, 137, 138, 139, 140, 141, 57, 142, 143, 144, 145, 146, 147, 148, 149, 150, 151, 152, 40, 41, 42, 153, 44, 45, 154, 731, 732, 733, 734, 735, 736, 737, 738, 739, 740, 741, 742, 743, 744, 745, 746, 747, 748, 749, 750, 751, 752, 753, 754, 755, 756, 757, 758, 759, 760, 761, 762, 763, 764, 765, 766, 767, 768, 769, 770, 771, 772, 773, 774, 775, 776, 777] (by decide +kernel) (by decide +kernel)
set_option maxRecDepth 20000 in
theorem gL_law_X8_init : GoodIn wsL_law (wsX8_init) := ggL_law_X8_init
set_option maxRecDepth 20000 in
theorem ggL_law_X7_tank : GoodIn wsL_law wsX7_tank := goodIn_r _ [158, 32, 159, 160, 161, 162, 163, 164, 2, 165, 47, 166, 167, 168, 716, 717, 718, 719, 720, 721, 722, 723, 724, 725, 726, 727, 728, 729, 730, 794, 795, 796, 797, 798, 799, 800, 801, 802, 803] (by decide +kernel) (by decide +kernel)
set_option maxRecDepth 20000 in
theorem gL_law_X7_tank : GoodIn wsL_law (wsV RL 21 RX7 yX7_tank wsX7_tank) := goodIn_app (goodIn_of _ (by decide +kernel)) ggL_law_X7_tank
set_option maxRecDepth 20000 in
theorem ggL_law_X8_tank : GoodIn wsL_law wsX8_tank := goodIn_r _ [172, 173, 119, 120, 121, 174, 175, 176, 5, 177, 154, 178, 179, 180, 731, 732, 733, 734, 735, 736, 737, 738, 739, 740, 741, 742, 743, 744, 745, 746, 747, 748, 749, 750, 751, 752, 753, 754, 755, 756, 757, 758, 759, 760, 761, 762, 763, 764, 765, 766, 767, 768, 769, 770, 771, 772, 773, 774, 775, 776, 777] (by decide +kernel) (by decide +kernel)
set_option maxRecDepth 20000 in
theorem gL_law_X8_tank : GoodIn wsL_law (wsV RL 25 RX8 yX8_tank wsX8_tank) := goodIn_app (goodIn_of _ (by decide +kernel)) ggL_law_X8_tank
set_option maxRecDepth 20000 in
theorem ggL_law_X7_water : GoodIn wsL_law wsX7_water := goodIn_r _ [184, 185, 186, 34, 187, 162, 163, 164, 2, 165, 47, 188, 189, 190, 49, 191, 91, 93, 166, 167, 168, 794, 795, 796, 797, 798, 799, 800, 801, 802, 803, 808, 809, 810, 811, 812, 716, 717, 718, 719, 720, 721, 722, 723, 724, 725, 726, 727, 728, 729, 730] (by decide +kernel) (by decide +kernel)
set_option maxRecDepth 20000 in
theorem gL_law_X7_water : GoodIn wsL_law (wsV RL 26 RX7 yX7_water wsX7_water) := goodIn_app (goodIn_of _ (by decide +kernel)) ggL_law_X7_water
set_option maxRecDepth 20000 in
theorem ggL_law_X8_water : GoodIn wsL_law wsX8_water := goodIn_r _ [195, 129, 196, 122, 174, 175, 176, 5, 177, 154, 178, 179, 180, 197, 198, 199, 200, 120, 124, 731, 732, 733, 734, 735, 736, 737, 738, 739, 740, 741, 742, 743, 744, 745, 746, 747, 748, 749, 750, 751, 752, 753, 754, 755, 756, 757, 758, 759, 760, 761, 762, 763, 764, 765, 766, 767, 768, 769, 770, 771, 772, 773, 774, 775, 776, 777] (by decide +kernel) (by decide +kernel)
set_option maxRecDepth 20000 in
theorem gL_law_X8_water : GoodIn wsL_law (wsV RL 30 RX8 yX8_water wsX8_water) := goodIn_app (goodIn_of _ (by decide +kernel)) ggL_law_X8_water
set_option maxRecDepth 20000 in
theorem ggL_law_X7_field : GoodIn wsL_law wsX7_field := goodIn_r _ [204, 31, 17, 16, 205, 206, 25, 162, 163, 164, 2, 165, 47, 166, 167, 168, 207, 208, 209, 210, 14, 15, 211, 212, 213, 214, 215, 216, 217, 218, 219, 220, 221, 222, 223, 224, 225, 49, 226, 95, 227, 228, 229, 230, 24, 231, 69, 68, 232, 233, 234, 235, 236, 237, 238, 716, 717, 718, 719, 720, 721, 722, 723, 724, 725, 726, 727, 728, 729, 730, 813, 814, 815, 816, 817, 818, 819, 820, 821, 822, 823, 824, 794, 795, 796, 797, 798, 799, 800, 801, 802, 803, 784, 785, 786, 787, 788, 789] (by decide +kernel) (by decide +kernel)
set_option maxRecDepth 20000 in
theorem gL_law_X7_field : GoodIn wsL_law (wsV RL 31 RX7 yX7_field wsX7_field) := goodIn_app (goodIn_of _ (by decide +kernel)) ggL_law_X7_field
set_option maxRecDepth 20000 in
theorem ggL_law_X8_field : GoodIn wsL_law wsX8_field := goodIn_r _ [242, 243, 130, 131, 132, 133, 137, 174, 175, 176, 5, 177, 154, 178, 179, 180, 731, 732, 733, 734, 735, 736, 737, 738, 739, 740, 741, 742, 743, 744, 745, 746, 747, 748, 749, 750, 751, 752, 753, 754, 755, 756, 757, 758, 759, 760, 761, 762, 763, 764, 765, 766, 767, 768, 769, 770, 771, 772, 773, 774, 775, 776, 777] (by decide +kernel) (by decide +kernel)
set_option maxRecDepth 20000 in
theorem gL_law_X8_field : GoodIn wsL_law (wsV RL 35 RX8 yX8_field wsX8_field) := goodIn_app (goodIn_of _ (by decide +kernel)) ggL_law_X8_field
set_option maxRecDepth 20000 in
theorem ggL_law_X7_open : GoodIn wsL_law wsX7_open := goodIn_r _ [247, 185, 248, 162, 163, 164, 2, 165, 47, 166, 167, 168, 794, 795, 796, 797, 798, 799, 800, 801, 802, 803, 808, 809, 810, 811, 812, 716, 717, 718, 719, 720, 721, 722, 723, 724, 725, 726, 727, 728, 729, 730] (by decide +kernel) (by decide +kernel)
set_option maxRecDepth 20000 in
theorem gL_law_X7_open : GoodIn wsL_law (wsV RL 36 RX7 yX7_open wsX7_open) := goodIn_app (goodIn_of _ (by decide +kernel)) ggL_law_X7_open
set_option maxRecDepth 20000 in
theorem ggL_law_X8_open : GoodIn wsL_law wsX8_open := goodIn_r _ [252, 123, 174, 175, 176, 5, 177, 154, 178, 179, 180, 731, 732, 733, 734, 735, 736, 737, 738, 739, 740, 741, 742, 743, 744, 745, 746, 747, 748, 749, 750, 751, 752, 753, 754, 755, 756, 757, 758, 759, 760, 761, 762, 763, 764, 765, 766, 767, 768, 769, 770, 771, 772, 773, 774, 775, 776, 777] (by decide +kernel) (by decide +kernel)
set_option maxRecDepth 20000 in
theorem gL_law_X8_open : GoodIn wsL_law (wsV RL 39 RX8 yX8_open wsX8_open) := goodIn_app (goodIn_of _ (by decide +kernel)) ggL_law_X8_open
set_option maxRecDepth 20000 in
theorem ggL_law_X7_mend : GoodIn wsL_law wsX7_mend := goodIn_r _ [256, 185, 186, 161, 162, 163, 164, 2, 165, 47, 166, 167, 168, 794, 795, 796, 797, 798, 799, 800, 801, 802, 803, 808, 809, 810, 811, 812, 716, 717, 718, 719, 720, 721, 722, 723, 724, 725, 726, 727, 728, 729, 730] (by decide +kernel) (by decide +kernel)
set_option maxRecDepth 20000 in
theorem gL_law_X7_mend : GoodIn wsL_law (wsV RL 40 RX7 yX7_mend wsX7_mend) := goodIn_app (goodIn_of _ (by decide +kernel)) ggL_law_X7_mend
set_option maxRecDepth 20000 in
theorem ggL_law_X8_mend : GoodIn wsL_law wsX8_mend := goodIn_r _ [260, 121, 129, 174, 175, 176, 5, 177, 154, 178, 179, 180, 731, 732, 733, 734, 735, 736, 737, 738, 739, 740, 741, 742, 743, 744, 745, 746, 747, 748, 749, 750, 751, 752, 753, 754, 755, 756, 757, 758, 759, 760, 761, 762, 763, 764, 765, 766, 767, 768, 769, 770, 771, 772, 773, 774, 775, 776, 777] (by decide +kernel) (by decide +kernel)
set_option maxRecDepth 20000 in
theorem gL_law_X8_mend : GoodIn wsL_law (wsV RL 43 RX8 yX8_mend wsX8_mend) := goodIn_app (goodIn_of _ (by decide +kernel)) ggL_law_X8_mend
set_option maxRecDepth 20000 in
theorem ggL_law_X7_dredge : GoodIn wsL_law wsX7_dredge := goodIn_r _ [264, 265, 162, 163, 164, 2, 165, 47, 166, 167, 168, 794, 795, 796, 797, 798, 799, 800, 801, 802, 803, 716, 717, 718, 719, 720, 721, 722, 723, 724, 725, 726, 727, 728, 729, 730] (by decide +kernel) (by decide +kernel)
set_option maxRecDepth 20000 in
theorem gL_law_X7_dredge : GoodIn wsL_law (wsV RL 44 RX7 yX7_dredge wsX7_dredge) := goodIn_app (goodIn_of _ (by decide +kernel)) ggL_law_X7_dredge
set_option maxRecDepth 20000 in
theorem ggL_law_X8_dredge : GoodIn wsL_law wsX8_dredge := goodIn_r _ [269, 124, 174, 175, 176, 5, 177, 154, 178, 179, 180, 731, 732, 733, 734, 735, 736, 737, 738, 739, 740, 741, 742, 743, 744, 745, 746, 747, 748, 749, 750, 751, 752, 753, 754, 755, 756, 757, 758, 759, 760, 761, 762, 763, 764, 765, 766, 767, 768, 769, 770, 771, 772, 773, 774, 775, 776, 777] (by decide +kernel) (by decide +kernel)
set_option maxRecDepth 20000 in
theorem gL_law_X8_dredge : GoodIn wsL_law (wsV RL 48 RX8 yX8_dredge wsX8_dredge) := goodIn_app (goodIn_of _ (by decide +kernel)) ggL_law_X8_dredge
set_option maxRecDepth 20000 in
theorem ggL_law_X7_feed : GoodIn wsL_law wsX7_feed := goodIn_r _ [273, 21, 274, 275, 276, 277, 20, 278, 279, 280, 281, 282, 59, 58, 716, 717, 718, 719, 720, 721, 722, 723, 724, 725, 726, 727, 728, 729, 730, 778, 779, 780, 781, 782, 783] (by decide +kernel) (by decide +kernel)
set_option maxRecDepth 20000 in
theorem gL_law_X7_feed : GoodIn wsL_law (wsV RL 49 RX7 yX7_feed wsX7_feed) := goodIn_app (goodIn_of _ (by decide +kernel)) ggL_law_X7_feed
set_option maxRecDepth 20000 in
theorem ggL_law_X8_feed : GoodIn wsL_law wsX8_feed := goodIn_r _ [286, 287, 288, 289, 290, 5, 291, 142, 731, 732, 733, 734, 735, 736, 737, 738, 739, 740, 741, 742, 743, 744, 745, 746, 747, 748, 749, 750, 751, 752, 753, 754, 755, 756, 757, 758, 759, 760, 761, 762, 763, 764, 765, 766, 767, 768, 769, 770, 771, 772, 773, 774, 775, 776, 777] (by decide +kernel) (by decide +kernel)
set_option maxRecDepth 20000 in
theorem gL_law_X8_feed : GoodIn wsL_law (wsV RL 53 RX8 yX8_feed wsX8_feed) := goodIn_app (goodIn_of _ (by decide +kernel)) ggL_law_X8_feed
set_option maxRecDepth 20000 in
theorem ggL_law_X7_custom : GoodIn wsL_law wsX7_custom := goodIn_r _ [295, 21, 274, 26, 35, 25, 296, 166, 167, 2, 168, 297, 298, 299, 20, 300, 60, 63, 61, 301, 62, 302, 303, 304, 24, 305, 69, 70, 71, 72, 73, 306, 307, 308, 309, 310, 311, 312, 313, 58, 314, 315, 316, 317, 318, 319, 320, 321, 322, 323, 324, 325, 326, 327, 328, 329, 330, 331, 332, 333, 334, 335, 336, 337, 338, 339, 340, 341, 342, 343, 344, 345, 346, 347, 348, 349, 350, 351, 352, 353, 354, 355, 356, 357, 358, 359, 360, 361, 362, 363, 364, 365, 366, 367, 368, 369, 370, 371, 372, 373, 374, 375, 376, 377, 378, 379, 380, 381, 382, 383, 384, 385, 386, 387, 388, 389, 390, 68, 391, 392, 393, 394, 395, 396, 397, 398, 399, 400, 401, 402, 403, 404, 53, 405, 406, 407, 31, 408, 409, 410, 411, 412, 17, 162, 163, 164, 165, 47, 223, 224, 225, 49, 226, 95, 227, 228, 229, 230, 231, 232, 233, 234, 235, 236, 237, 238, 716, 717, 718, 719, 720, 721, 722, 723, 724, 725, 726, 727, 728, 729, 730, 778, 779, 780, 781, 782, 783, 784, 785, 786, 787, 788, 789, 804, 805, 806, 807, 794, 795, 796, 797, 798, 799, 800, 801, 802, 803, 813, 814, 815, 816, 817, 818, 819, 820, 821, 822, 823, 824] (by decide +kernel) (by decide +kernel)
set_option maxRecDepth 20000 in
theorem gL_law_X7_custom : GoodIn wsL_law (wsV RL 54 RX7 yX7_custom wsX7_custom) := goodIn_app (goodIn_of _ (by decide +kernel)) ggL_law_X7_custom
set_option maxRecDepth 20000 in
theorem ggL_law_X8_custom_ : GoodIn wsL_law wsX8_custom_ := goodIn_r _ [416, 287, 143, 142, 417, 418, 145, 144, 419, 178, 179, 5, 180, 420, 421, 422, 423, 424, 425, 426, 427, 428, 429, 430, 431, 432, 433, 434, 435, 436, 437, 438, 439, 440, 441, 442, 443, 444, 445, 446, 447, 731, 732, 733, 734, 735, 736, 737, 738, 739, 740, 741, 742, 743, 744, 745, 746, 747, 748, 749, 750, 751, 752, 753, 754, 755, 756, 757, 758, 759, 760, 761, 762, 763, 764, 765, 766, 767, 768, 769, 770, 771, 772, 773, 774, 775, 776, 777] (by decide +kernel) (by decide +kernel)
set_option maxRecDepth 20000 in
theorem gL_law_X8_custom_ : GoodIn wsL_law (wsV RL 58 RX8 yX8_custom_ wsX8_custom_) := goodIn_app (goodIn_of _ (by decide +kernel)) ggL_law_X8_custom_
set_option maxRecDepth 20000 in
theorem ggL_law_X7_fault : GoodIn wsL_law wsX7_fault := goodIn_r _ [451, 35, 716, 717, 718, 719, 720, 721, 722, 723, 724, 725, 726, 727, 728, 729, 730] (by decide +kernel) (by decide +kernel)
set_option maxRecDepth 20000 in
theorem gL_law_X7_fault : GoodIn wsL_law (wsV RL 59 RX7 yX7_fault wsX7_fault) := goodIn_app (goodIn_of _ (by decide +kernel)) ggL_law_X7_fault
set_option maxRecDepth 20000 in
theorem ggL_law_X8_fault : GoodIn wsL_law wsX8_fault := goodIn_r _ [455, 144, 731, 732, 733, 734, 735, 736, 737, 738, 739, 740, 741, 742, 743, 744, 745, 746, 747, 748, 749, 750, 751, 752, 753, 754, 755, 756, 757, 758, 759, 760, 761, 762, 763, 764, 765, 766, 767, 768, 769, 770, 771, 772, 773, 774, 775, 776, 777] (by decide +kernel) (by decide +kernel)
set_option maxRecDepth 20000 in
theorem gL_law_X8_fault : GoodIn wsL_law (wsV RL 63 RX8 yX8_fault wsX8_fault) := goodIn_app (goodIn_of _ (by decide +kernel)) ggL_law_X8_fault
set_option maxRecDepth 20000 in
theorem ggL_law_X7_day : GoodIn wsL_law wsX7_day := goodIn_r _ [459, 32, 33, 53, 30, 460, 166, 167, 2, 168, 461, 462, 463, 464, 405, 160, 265, 39, 40, 41, 42, 407, 465, 466, 467, 52, 468, 113, 469, 470, 471, 472, 473, 474, 87, 475, 101, 102, 103, 104, 105, 476, 477, 478, 479, 111, 112, 480, 481, 482, 483, 484, 29, 485, 77, 78, 79, 80, 486, 487, 488, 489, 490, 491, 492, 44, 45, 493, 494, 495, 496, 497, 498, 499, 500, 501, 502, 503, 114, 504, 505, 506, 507, 508, 509, 510, 511, 512, 513, 514, 515, 49, 516, 91, 517, 518, 519, 520, 521, 522, 523, 524, 525, 526, 527, 528, 529, 530, 531, 532, 533, 206, 534, 212, 220, 535, 189, 190, 191, 93, 536, 537, 538, 539, 540, 186, 185, 541, 542, 36, 37, 38, 543, 544, 545, 546, 547, 31, 409, 410, 411, 412, 17, 548, 549, 550, 551, 216, 215, 214, 552, 553, 554, 555, 556, 716, 717, 718, 719, 720, 721, 722, 723, 724, 725, 726, 727, 728, 729, 730, 804, 805, 806, 807, 794, 795, 796, 797, 798, 799, 800, 801, 802, 803, 808, 809, 810, 811, 812, 790, 791, 792, 793, 784, 785, 786, 787, 788, 789, 813, 814, 815, 816, 817, 818, 819, 820, 821, 822, 823, 824] (by decide +kernel) (by decide +kernel)
set_option maxRecDepth 20000 in
theorem gL_law_X7_day : GoodIn wsL_law (wsV RL 64 RX7 yX7_day wsX7_day) := goodIn_app (goodIn_of _ (by decide +kernel)) ggL_law_X7_day
set_option maxRecDepth 20000 in
theorem ggL_law_X8_day : GoodIn wsL_law wsX8_day := goodIn_r _ [560, 173, 561, 154, 124, 120, 152, 40, 41, 42, 122, 129, 123, 178, 179, 5, 180, 562, 563, 564, 565, 119, 153, 44, 45, 121, 243, 130, 147, 132, 125, 126, 566, 567, 568, 136, 135, 134, 138, 133, 127, 139, 140, 141, 569, 570, 571, 572, 573, 146, 148, 131, 574, 575, 576, 577, 419, 145, 578, 579, 580, 581, 582, 583, 584, 585, 137, 586, 587, 588, 589, 590, 591, 592, 197, 198, 199, 200, 731, 732, 733, 734, 735, 736, 737, 738, 739, 740, 741, 742, 743, 744, 745, 746, 747, 748, 749, 750, 751, 752, 753, 754, 755, 756, 757, 758, 759, 760, 761, 762, 763, 764, 765, 766, 767, 768, 769, 770, 771, 772, 773, 774, 775, 776, 777] (by decide +kernel) (by decide +kernel)
set_option maxRecDepth 20000 in
theorem gL_law_X8_day : GoodIn wsL_law (wsV RL 67 RX8 yX8_day wsX8_day) := goodIn_app (goodIn_of _ (by decide +kernel)) ggL_law_X8_day
set_option maxRecDepth 20000 in
theorem ggL_law_X7_told : GoodIn wsL_law wsX7_told := goodIn_r _ [596, 159, 160, 161, 185, 187, 248, 265, 186, 597, 598, 541, 162, 163, 164, 2, 165, 47, 599, 600, 601, 188, 189, 190, 49, 191, 91, 93, 602, 514, 515, 516, 794, 795, 796, 797, 798, 799, 800, 801, 802, 803, 808, 809, 810, 811, 812, 716, 717, 718, 719, 720, 721, 722, 723, 724, 725, 726, 727, 728, 729, 730] (by decide +kernel) (by decide +kernel)
set_option maxRecDepth 20000 in
theorem gL_law_X7_told : GoodIn wsL_law (wsV RL 68 RX7 yX7_told wsX7_told) := goodIn_app (goodIn_of _ (by decide +kernel)) ggL_law_X7_told
set_option maxRecDepth 20000 in
theorem ggL_law_X8_told : GoodIn wsL_law wsX8_told := goodIn_r _ [606, 119, 120, 121, 122, 123, 124, 129, 125, 126, 127, 174, 175, 176, 5, 177, 154, 178, 179, 180, 586, 587, 588, 197, 198, 199, 200, 589, 590, 591, 592, 731, 732, 733, 734, 735, 736, 737, 738, 739, 740, 741, 742, 743, 744, 745, 746, 747, 748, 749, 750, 751, 752, 753, 754, 755, 756, 757, 758, 759, 760, 761, 762, 763, 764, 765, 766, 767, 768, 769, 770, 771, 772, 773, 774, 775, 776, 777] (by decide +kernel) (by decide +kernel)
set_option maxRecDepth 20000 in
theorem gL_law_X8_told : GoodIn wsL_law (wsV RL 71 RX8 yX8_told wsX8_told) := goodIn_app (goodIn_of _ (by decide +kernel)) ggL_law_X8_told
set_option maxRecDepth 20000 in
theorem ggL_law_X7_fieldOf : GoodIn wsL_law wsX7_fieldOf := goodIn_r _ [610, 408, 611, 612, 613, 614, 615, 616, 617, 409, 410, 411, 2, 412, 17, 599, 600, 601, 813, 814, 815, 816, 817, 818, 819, 820, 821, 822, 823, 824, 716, 717, 718, 719, 720, 721, 722, 723, 724, 725, 726, 727, 728, 729, 730] (by decide +kernel) (by decide +kernel)
set_option maxRecDepth 20000 in
theorem gL_law_X7_fieldOf : GoodIn wsL_law (wsV RL 72 RX7 yX7_fieldOf wsX7_fieldOf) := goodIn_app (goodIn_of _ (by decide +kernel)) ggL_law_X7_fieldOf
set_option maxRecDepth 20000 in
theorem ggL_law_X8_fieldOf : GoodIn wsL_law wsX8_fieldOf := goodIn_r _ [621, 243, 130, 131, 132, 133, 137, 134, 135, 136, 178, 179, 5, 180, 586, 587, 588, 731, 732, 733, 734, 735, 736, 737, 738, 739, 740, 741, 742, 743, 744, 745, 746, 747, 748, 749, 750, 751, 752, 753, 754, 755, 756, 757, 758, 759, 760, 761, 762, 763, 764, 765, 766, 767, 768, 769, 770, 771, 772, 773, 774, 775, 776, 777] (by decide +kernel) (by decide +kernel)
set_option maxRecDepth 20000 in
theorem gL_law_X8_fieldOf : GoodIn wsL_law (wsV RL 75 RX8 yX8_fieldOf wsX8_fieldOf) := goodIn_app (goodIn_of _ (by decide +kernel)) ggL_law_X8_fieldOf
set_option maxRecDepth 20000 in
theorem ggL_law_X7_order : GoodIn wsL_law wsX7_order := goodIn_r _ [625, 406, 626, 627, 162, 163, 164, 2, 165, 47, 794, 795, 796, 797, 798, 799, 800, 801, 802, 803, 813, 814, 815, 816, 817, 818, 819, 820, 821, 822, 823, 824, 716, 717, 718, 719, 720, 721, 722, 723, 724, 725, 726, 727, 728, 729, 730] (by decide +kernel) (by decide +kernel)
set_option maxRecDepth 20000 in
theorem gL_law_X7_order : GoodIn wsL_law (wsV RL 76 RX7 yX7_order wsX7_order) := goodIn_app (goodIn_of _ (by decide +kernel)) ggL_law_X7_order
set_option maxRecDepth 20000 in
theorem ggL_law_X8_order : GoodIn wsL_law wsX8_order := goodIn_r _ [631, 146, 174, 175, 176, 5, 177, 154, 178, 179, 180, 578, 579, 580, 581, 243, 130, 582, 583, 584, 585, 145, 137, 132, 131, 574, 575, 576, 577, 419, 586, 587, 588, 731, 732, 733, 734, 735, 736, 737, 738, 739, 740, 741, 742, 743, 744, 745, 746, 747, 748, 749, 750, 751, 752, 753, 754, 755, 756, 757, 758, 759, 760, 761, 762, 763, 764, 765, 766, 767, 768, 769, 770, 771, 772, 773, 774, 775, 776, 777] (by decide +kernel) (by decide +kernel)
set_option maxRecDepth 20000 in
theorem gL_law_X8_order : GoodIn wsL_law (wsV RL 79 RX8 yX8_order wsX8_order) := goodIn_app (goodIn_of _ (by decide +kernel)) ggL_law_X8_order
set_option maxRecDepth 20000 in
theorem ggL_law_X7_owner : GoodIn wsL_law wsX7_owner := goodIn_r _ [635, 31, 613, 612, 615, 166, 167, 2, 168, 409, 410, 411, 412, 17, 716, 717, 718, 719, 720, 721, 722, 723, 724, 725, 726, 727, 728, 729, 730, 813, 814, 815, 816, 817, 818, 819, 820, 821, 822, 823, 824] (by decide +kernel) (by decide +kernel)
set_option maxRecDepth 20000 in
theorem gL_law_X7_owner : GoodIn wsL_law (wsV RL 80 RX7 yX7_owner wsX7_owner) := goodIn_app (goodIn_of _ (by decide +kernel)) ggL_law_X7_owner
set_option maxRecDepth 20000 in
theorem ggL_law_X8_owner : GoodIn wsL_law wsX8_owner := goodIn_r _ [639, 138, 178, 179, 5, 180, 731, 732, 733, 734, 735, 736, 737, 738, 739, 740, 741, 742, 743, 744, 745, 746, 747, 748, 749, 750, 751, 752, 753, 754, 755, 756, 757, 758, 759, 760, 761, 762, 763, 764, 765, 766, 767, 768, 769, 770, 771, 772, 773, 774, 775, 776, 777] (by decide +kernel) (by decide +kernel)
set_option maxRecDepth 20000 in
theorem gL_law_X8_owner : GoodIn wsL_law (wsV RL 83 RX8 yX8_owner wsX8_owner) := goodIn_app (goodIn_of _ (by decide +kernel)) ggL_law_X8_owner
set_option maxRecDepth 20000 in
theorem ggL_law_X7_tried : GoodIn wsL_law wsX7_tried := goodIn_r _ [643, 162, 163, 164, 2, 165, 47, 644, 645, 646, 166, 167, 168, 647, 648, 649, 650, 53, 540, 248, 187, 465, 466, 467, 52, 468, 113, 469, 470, 471, 472, 473, 474, 87, 475, 101, 102, 103, 104, 105, 476, 477, 478, 479, 111, 112, 480, 481, 482, 483, 484, 29, 485, 77, 78, 79, 80, 486, 487, 488, 489, 490, 491, 492, 44, 41, 45, 493, 494, 495, 496, 497, 498, 499, 500, 501, 502, 503, 114, 504, 505, 506, 40, 42, 507, 508, 509, 510, 511, 512, 513, 514, 515, 49, 516, 91, 517, 518, 519, 520, 521, 522, 523, 524, 525, 526, 527, 528, 529, 530, 531, 532, 533, 206, 534, 212, 220, 535, 189, 190, 191, 93, 716, 717, 718, 719, 720, 721, 722, 723, 724, 725, 726, 727, 728, 729, 730, 794, 795, 796, 797, 798, 799, 800, 801, 802, 803, 808, 809, 810, 811, 812, 804, 805, 806, 807, 790, 791, 792, 793, 784, 785, 786, 787, 788, 789, 813, 814, 815, 816, 817, 818, 819, 820, 821, 822, 823, 824] (by decide +kernel) (by decide +kernel)
set_option maxRecDepth 20000 in
theorem gL_law_X7_tried : GoodIn wsL_law (wsV RL 84 RX7 yX7_tried wsX7_tried) := goodIn_app (goodIn_of _ (by decide +kernel)) ggL_law_X7_tried
set_option maxRecDepth 20000 in
theorem ggL_law_X8_tried : GoodIn wsL_law wsX8_tried := goodIn_r _ [654, 149, 174, 175, 176, 5, 177, 154, 178, 179, 180, 655, 656, 657, 658, 659, 660, 661, 150, 123, 662, 663, 664, 665, 122, 151, 129, 562, 563, 564, 565, 119, 153, 44, 41, 45, 121, 243, 130, 147, 132, 125, 126, 566, 567, 568, 136, 135, 134, 138, 133, 127, 173, 139, 140, 141, 569, 570, 571, 572, 573, 120, 152, 40, 42, 146, 148, 131, 574, 575, 576, 577, 419, 145, 578, 579, 580, 581, 582, 583, 584, 585, 137, 586, 587, 588, 589, 590, 591, 592, 197, 198, 199, 200, 124, 731, 732, 733, 734, 735, 736, 737, 738, 739, 740, 741, 742, 743, 744, 745, 746, 747, 748, 749, 750, 751, 752, 753, 754, 755, 756, 757, 758, 759, 760, 761, 762, 763, 764, 765, 766, 767, 768, 769, 770, 771, 772, 773, 774, 775, 776, 777] (by decide +kernel) (by decide +kernel)
set_option maxRecDepth 20000 in
theorem gL_law_X8_tried : GoodIn wsL_law (wsV RL 88 RX8 yX8_tried wsX8_tried) := goodIn_app (goodIn_of _ (by decide +kernel)) ggL_law_X8_tried
set_option maxRecDepth 20000 in
theorem ggL_law_X7_lost : GoodIn wsL_law wsX7_lost := goodIn_r _ [669, 670, 162, 163, 164, 2, 165, 47, 644, 645, 646, 166, 167, 168, 647, 648, 649, 650, 53, 540, 248, 187, 465, 466, 467, 52, 468, 113, 469, 470, 471, 472, 473, 474, 87, 475, 101, 102, 103, 104, 105, 476, 477, 478, 479, 111, 112, 480, 481, 482, 483, 484, 29, 485, 77, 78, 79, 80, 486, 487, 488, 489, 490, 491, 492, 44, 41, 45, 493, 494, 495, 496, 497, 498, 499, 500, 501, 502, 503, 114, 504, 505, 506, 40, 42, 507, 508, 509, 510, 511, 512, 513, 514, 515, 49, 516, 91, 517, 518, 519, 520, 521, 522, 523, 524, 525, 526, 527, 528, 529, 530, 531, 532, 533, 206, 534, 212, 220, 535, 189, 190, 191, 93, 716, 717, 718, 719, 720, 721, 722, 723, 724, 725, 726, 727, 728, 729, 730, 794, 795, 796, 797, 798, 799, 800, 801, 802, 803, 808, 809, 810, 811, 812, 804, 805, 806, 807, 790, 791, 792, 793, 784, 785, 786, 787, 788, 789, 813, 814, 815, 816, 817, 818, 819, 820, 821, 822, 823, 824] (by decide +kernel) (by decide +kernel)
set_option maxRecDepth 20000 in
theorem gL_law_X7_lost : GoodIn wsL_law (wsV RL 89 RX7 yX7_lost wsX7_lost) := goodIn_app (goodIn_of _ (by decide +kernel)) ggL_law_X7_lost
set_option maxRecDepth 20000 in
theorem ggL_law_X8_lost : GoodIn wsL_law wsX8_lost := goodIn_r _ [674, 675, 149, 150, 174, 175, 176, 5, 177, 154, 178, 179, 180, 655, 656, 657, 658, 659, 660, 661, 123, 662, 663, 664, 665, 122, 151, 129, 562, 563, 564, 565, 119, 153, 44, 41, 45, 121, 243, 130, 147, 132, 125, 126, 566, 567, 568, 136, 135, 134, 138, 133, 127, 173, 139, 140, 141, 569, 570, 571, 572, 573, 120, 152, 40, 42, 146, 148, 131, 574, 575, 576, 577, 419, 145, 578, 579, 580, 581, 582, 583, 584, 585, 137, 586, 587, 588, 589, 590, 591, 592, 197, 198, 199, 200, 124, 731, 732, 733, 734, 735, 736, 737, 738, 739, 740, 741, 742, 743, 744, 745, 746, 747, 748, 749, 750, 751, 752, 753, 754, 755, 756, 757, 758, 759, 760, 761, 762, 763, 764, 765, 766, 767, 768, 769, 770, 771, 772, 773, 774, 775, 776, 777] (by decide +kernel) (by decide +kernel)
set_option maxRecDepth 20000 in
theorem gL_law_X8_lost : GoodIn wsL_law (wsV RL 93 RX8 yX8_lost wsX8_lost) := goodIn_app (goodIn_of _ (by decide +kernel)) ggL_law_X8_lost
set_option maxRecDepth 20000 in
theorem ggL_law_X7_most : GoodIn wsL_law wsX7_most := goodIn_r _ [679, 162, 163, 164, 2, 165, 47, 166, 167, 168, 644, 645, 646, 680, 681, 682, 683, 53, 540, 248, 684, 465, 466, 467, 52, 468, 113, 469, 470, 471, 472, 473, 474, 87, 475, 101, 102, 103, 104, 105, 685, 686, 687, 476, 477, 478, 479, 111, 112, 480, 481, 482, 483, 484, 29, 485, 77, 78, 79, 80, 486, 487, 488, 489, 490, 491, 492, 44, 41, 45, 493, 494, 495, 496, 497, 498, 499, 500, 501, 502, 503, 114, 504, 505, 506, 40, 42, 507, 508, 509, 510, 511, 512, 513, 514, 515, 49, 516, 91, 517, 518, 519, 520, 521, 522, 523, 524, 525, 526, 527, 528, 529, 530, 531, 532, 533, 206, 534, 212, 220, 535, 189, 190, 191, 93, 716, 717, 718, 719, 720, 721, 722, 723, 724, 725, 726, 727, 728, 729, 730, 794, 795, 796, 797, 798, 799, 800, 801, 802, 803, 808, 809, 810, 811, 812, 804, 805, 806, 807, 790, 791, 792, 793, 784, 785, 786, 787, 788, 789, 813, 814, 815, 816, 817, 818, 819, 820, 821, 822, 823, 824] (by decide +kernel) (by decide +kernel)
set_option maxRecDepth 20000 in
theorem gL_law_X7_most : GoodIn wsL_law (wsV RL 94 RX7 yX7_most wsX7_most) := goodIn_app (goodIn_of _ (by decide +kernel)) ggL_law_X7_most
set_option maxRecDepth 20000 in
theorem ggL_law_X8_most : GoodIn wsL_law wsX8_most := goodIn_r _ [691, 154, 150, 178, 179, 5, 180, 655, 656, 657, 658, 659, 660, 661, 123, 662, 663, 664, 665, 149, 122, 151, 129, 562, 563, 564, 565, 119, 153, 44, 41, 45, 121, 243, 130, 147, 132, 125, 126, 566, 567, 568, 136, 135, 134, 138, 133, 127, 173, 139, 140, 141, 569, 570, 571, 572, 573, 120, 152, 40, 42, 146, 148, 131, 574, 575, 576, 577, 419, 145, 578, 579, 580, 581, 582, 583, 584, 585, 137, 586, 587, 588, 589, 590, 591, 592, 197, 198, 199, 200, 124, 731, 732, 733, 734, 735, 736, 737, 738, 739, 740, 741, 742, 743, 744, 745, 746, 747, 748, 749, 750, 751, 752, 753, 754, 755, 756, 757, 758, 759, 760, 761, 762, 763, 764, 765, 766, 767, 768, 769, 770, 771, 772, 773, 774, 775, 776, 777] (by decide +kernel) (by decide +kernel)
set_option maxRecDepth 20000 in
theorem gL_law_X8_most : GoodIn wsL_law (wsV RL 97 RX8 yX8_most wsX8_most) := goodIn_app (goodIn_of _ (by decide +kernel)) ggL_law_X8_most
set_option maxRecDepth 20000 in
theorem ggL_law_X7_breach : GoodIn wsL_law wsX7_breach := goodIn_r _ [695, 37, 38, 36, 716, 717, 718, 719, 720, 721, 722, 723, 724, 725, 726, 727, 728, 729, 730] (by decide +kernel) (by decide +kernel)
set_option maxRecDepth 20000 in
theorem gL_law_X7_breach : GoodIn wsL_law (wsV RL 98 RX7 yX7_breach wsX7_breach) := goodIn_app (goodIn_of _ (by decide +kernel)) ggL_law_X7_breach
set_option maxRecDepth 20000 in
theorem ggL_law_X8_breach : GoodIn wsL_law wsX8_breach := goodIn_r _ [699, 139, 140, 141, 731, 732, 733, 734, 735, 736, 737, 738, 739, 740, 741, 742, 743, 744, 745, 746, 747, 748, 749, 750, 751, 752, 753, 754, 755, 756, 757, 758, 759, 760, 761, 762, 763, 764, 765, 766, 767, 768, 769, 770, 771, 772, 773, 774, 775, 776, 777] (by decide +kernel) (by decide +kernel)
set_option maxRecDepth 20000 in
theorem gL_law_X8_breach : GoodIn wsL_law (wsV RL 101 RX8 yX8_breach wsX8_breach) := goodIn_app (goodIn_of _ (by decide +kernel)) ggL_law_X8_breach
set_option maxRecDepth 20000 in
theorem ggL_law_X7_count : GoodIn wsL_law wsX7_count := goodIn_r _ [703, 32, 47, 31, 30, 704, 705, 706, 707, 21, 274, 34, 708, 709, 710, 2, 711, 53, 405, 185, 187, 407, 716, 717, 718, 719, 720, 721, 722, 723, 724, 725, 726, 727, 728, 729, 730, 790, 791, 792, 793, 778, 779, 780, 781, 782, 783, 804, 805, 806, 807, 794, 795, 796, 797, 798, 799, 800, 801, 802, 803, 808, 809, 810, 811, 812] (by decide +kernel) (by decide +kernel)
set_option maxRecDepth 20000 in
theorem gL_law_X7_count : GoodIn wsL_law (wsV RL 102 RX7 yX7_count wsX7_count) := goodIn_app (goodIn_of _ (by decide +kernel)) ggL_law_X7_count
set_option maxRecDepth 20000 in
theorem ggL_law_X8_count : GoodIn wsL_law wsX8_count := goodIn_r _ [715, 173, 154, 243, 122, 569, 566, 567, 568, 287, 196, 731, 732, 733, 734, 735, 736, 737, 738, 739, 740, 741, 742, 743, 744, 745, 746, 747, 748, 749, 750, 751, 752, 753, 754, 755, 756, 757, 758, 759, 760, 761, 762, 763, 764, 765, 766, 767, 768, 769, 770, 771, 772, 773, 774, 775, 776, 777] (by decide +kernel) (by decide +kernel)
set_option maxRecDepth 20000 in
theorem gL_law_X8_count : GoodIn wsL_law (wsV RL 105 RX8 yX8_count wsX8_count) := goodIn_app (goodIn_of _ (by decide +kernel)) ggL_law_X8_count
theorem dL_law_0 : decode cL_law 0 = .ok (.new 7, 3) := by decide +kernel
theorem dL_law_3 : decode cL_law 3 = .ok (.dup, 1) := by decide +kernel
theorem dL_law_4 : decode cL_law 4 = .ok (.aload_n 0, 1) := by decide +kernel
theorem dL_law_5 : decode cL_law 5 = .ok (.iconst 0, 1) := by decide +kernel
theorem dL_law_6 : decode cL_law 6 = .ok (.invokestatic 9, 3) := by decide +kernel
theorem dL_law_9 : decode cL_law 9 = .ok (.invokespecial 15, 3) := by decide +kernel
theorem dL_law_12 : decode cL_law 12 = .ok (.astore_n 1, 1) := by decide +kernel
theorem dL_law_13 : decode cL_law 13 = .ok (.new 18, 3) := by decide +kernel
theorem dL_law_16 : decode cL_law 16 = .ok (.dup, 1) := by decide +kernel
theorem dL_law_17 : decode cL_law 17 = .ok (.aload_n 0, 1) := by decide +kernel
theorem dL_law_18 : decode cL_law 18 = .ok (.iconst 0, 1) := by decide +kernel
theorem dL_law_19 : decode cL_law 19 = .ok (.invokestatic 9, 3) := by decide +kernel
theorem dL_law_22 : decode cL_law 22 = .ok (.invokespecial 20, 3) := by decide +kernel
theorem dL_law_25 : decode cL_law 25 = .ok (.astore_n 2, 1) := by decide +kernel
theorem dL_law_26 : decode cL_law 26 = .ok (.iconst 1, 1) := by decide +kernel
theorem dL_law_27 : decode cL_law 27 = .ok (.istore_n 3, 1) := by decide +kernel
theorem dL_law_28 : decode cL_law 28 = .ok (.iload_n 3, 1) := by decide +kernel
theorem dL_law_29 : decode cL_law 29 = .ok (.aload_n 0, 1) := by decide +kernel
theorem dL_law_30 : decode cL_law 30 = .ok (.arraylength, 1) := by decide +kernel
theorem dL_law_31 : decode cL_law 31 = .ok (.bipush 6, 2) := by decide +kernel
theorem dL_law_33 : decode cL_law 33 = .ok (.isub, 1) := by decide +kernel
theorem dL_law_34 : decode cL_law 34 = .ok (.if_icmp .gt 817, 3) := by decide +kernel
theorem dL_law_37 : decode cL_law 37 = .ok (.aload_n 0, 1) := by decide +kernel
theorem dL_law_38 : decode cL_law 38 = .ok (.iload_n 3, 1) := by decide +kernel
theorem dL_law_39 : decode cL_law 39 = .ok (.iaload, 1) := by decide +kernel
theorem dL_law_40 : decode cL_law 40 = .ok (.bipush 31, 2) := by decide +kernel
theorem dL_law_42 : decode cL_law 42 = .ok (.iand, 1) := by decide +kernel
theorem dL_law_43 : decode cL_law 43 = .ok (.tableswitch 802 0 18 #[89, 142, 175, 254, 287, 320, 353, 416, 439, 452, 475, 508, 541, 574, 597, 640, 693, 756, 779], 89) := by decide +kernel
theorem dL_law_132 : decode cL_law 132 = .ok (.aload_n 1, 1) := by decide +kernel
theorem dL_law_133 : decode cL_law 133 = .ok (.aload_n 0, 1) := by decide +kernel
theorem dL_law_134 : decode cL_law 134 = .ok (.iload_n 3, 1) := by decide +kernel
theorem dL_law_135 : decode cL_law 135 = .ok (.iconst 1, 1) := by decide +kernel
theorem dL_law_136 : decode cL_law 136 = .ok (.iadd, 1) := by decide +kernel
theorem dL_law_137 : decode cL_law 137 = .ok (.iaload, 1) := by decide +kernel
theorem dL_law_138 : decode cL_law 138 = .ok (.aload_n 0, 1) := by decide +kernel
theorem dL_law_139 : decode cL_law 139 = .ok (.iload_n 3, 1) := by decide +kernel
theorem dL_law_140 : decode cL_law 140 = .ok (.iconst 2, 1) := by decide +kernel
theorem dL_law_141 : decode cL_law 141 = .ok (.iadd, 1) := by decide +kernel
theorem dL_law_142 : decode cL_law 142 = .ok (.iaload, 1) := by decide +kernel
theorem dL_law_143 : decode cL_law 143 = .ok (.aload_n 0, 1) := by decide +kernel
theorem dL_law_144 : decode cL_law 144 = .ok (.iload_n 3, 1) := by decide +kernel
theorem dL_law_145 : decode cL_law 145 = .ok (.iconst 3, 1) := by decide +kernel
theorem dL_law_146 : decode cL_law 146 = .ok (.iadd, 1) := by decide +kernel
theorem dL_law_147 : decode cL_law 147 = .ok (.iaload, 1) := by decide +kernel
theorem dL_law_148 : decode cL_law 148 = .ok (.aload_n 0, 1) := by decide +kernel
theorem dL_law_149 : decode cL_law 149 = .ok (.iload_n 3, 1) := by decide +kernel
theorem dL_law_150 : decode cL_law 150 = .ok (.iconst 4, 1) := by decide +kernel
theorem dL_law_151 : decode cL_law 151 = .ok (.iadd, 1) := by decide +kernel
theorem dL_law_152 : decode cL_law 152 = .ok (.iaload, 1) := by decide +kernel
theorem dL_law_153 : decode cL_law 153 = .ok (.invokevirtual 21, 3) := by decide +kernel
theorem dL_law_156 : decode cL_law 156 = .ok (.aload_n 2, 1) := by decide +kernel
theorem dL_law_157 : decode cL_law 157 = .ok (.aload_n 0, 1) := by decide +kernel
theorem dL_law_158 : decode cL_law 158 = .ok (.iload_n 3, 1) := by decide +kernel
theorem dL_law_159 : decode cL_law 159 = .ok (.iconst 1, 1) := by decide +kernel
theorem dL_law_160 : decode cL_law 160 = .ok (.iadd, 1) := by decide +kernel
theorem dL_law_161 : decode cL_law 161 = .ok (.iaload, 1) := by decide +kernel
theorem dL_law_162 : decode cL_law 162 = .ok (.aload_n 0, 1) := by decide +kernel
theorem dL_law_163 : decode cL_law 163 = .ok (.iload_n 3, 1) := by decide +kernel
theorem dL_law_164 : decode cL_law 164 = .ok (.iconst 2, 1) := by decide +kernel
theorem dL_law_165 : decode cL_law 165 = .ok (.iadd, 1) := by decide +kernel
theorem dL_law_166 : decode cL_law 166 = .ok (.iaload, 1) := by decide +kernel
theorem dL_law_167 : decode cL_law 167 = .ok (.aload_n 0, 1) := by decide +kernel
theorem dL_law_168 : decode cL_law 168 = .ok (.iload_n 3, 1) := by decide +kernel
theorem dL_law_169 : decode cL_law 169 = .ok (.iconst 3, 1) := by decide +kernel
theorem dL_law_170 : decode cL_law 170 = .ok (.iadd, 1) := by decide +kernel
theorem dL_law_171 : decode cL_law 171 = .ok (.iaload, 1) := by decide +kernel
theorem dL_law_172 : decode cL_law 172 = .ok (.aload_n 0, 1) := by decide +kernel
theorem dL_law_173 : decode cL_law 173 = .ok (.iload_n 3, 1) := by decide +kernel
theorem dL_law_174 : decode cL_law 174 = .ok (.iconst 4, 1) := by decide +kernel
theorem dL_law_175 : decode cL_law 175 = .ok (.iadd, 1) := by decide +kernel
theorem dL_law_176 : decode cL_law 176 = .ok (.iaload, 1) := by decide +kernel
theorem dL_law_177 : decode cL_law 177 = .ok (.invokevirtual 25, 3) := by decide +kernel
theorem dL_law_180 : decode cL_law 180 = .ok (.if_icmp .eq 665, 3) := by decide +kernel
theorem dL_law_183 : decode cL_law 183 = .ok (.iconst 0, 1) := by decide +kernel
theorem dL_law_184 : decode cL_law 184 = .ok (.ireturn, 1) := by decide +kernel
theorem dL_law_185 : decode cL_law 185 = .ok (.aload_n 1, 1) := by decide +kernel
theorem dL_law_186 : decode cL_law 186 = .ok (.aload_n 0, 1) := by decide +kernel
theorem dL_law_187 : decode cL_law 187 = .ok (.iload_n 3, 1) := by decide +kernel
theorem dL_law_188 : decode cL_law 188 = .ok (.iconst 1, 1) := by decide +kernel
theorem dL_law_189 : decode cL_law 189 = .ok (.iadd, 1) := by decide +kernel
theorem dL_law_190 : decode cL_law 190 = .ok (.iaload, 1) := by decide +kernel
theorem dL_law_191 : decode cL_law 191 = .ok (.aload_n 0, 1) := by decide +kernel
theorem dL_law_192 : decode cL_law 192 = .ok (.iload_n 3, 1) := by decide +kernel
theorem dL_law_193 : decode cL_law 193 = .ok (.iconst 2, 1) := by decide +kernel
theorem dL_law_194 : decode cL_law 194 = .ok (.iadd, 1) := by decide +kernel
theorem dL_law_195 : decode cL_law 195 = .ok (.iaload, 1) := by decide +kernel
theorem dL_law_196 : decode cL_law 196 = .ok (.invokevirtual 26, 3) := by decide +kernel
theorem dL_law_199 : decode cL_law 199 = .ok (.aload_n 2, 1) := by decide +kernel
theorem dL_law_200 : decode cL_law 200 = .ok (.aload_n 0, 1) := by decide +kernel
theorem dL_law_201 : decode cL_law 201 = .ok (.iload_n 3, 1) := by decide +kernel
theorem dL_law_202 : decode cL_law 202 = .ok (.iconst 1, 1) := by decide +kernel
theorem dL_law_203 : decode cL_law 203 = .ok (.iadd, 1) := by decide +kernel
theorem dL_law_204 : decode cL_law 204 = .ok (.iaload, 1) := by decide +kernel
theorem dL_law_205 : decode cL_law 205 = .ok (.aload_n 0, 1) := by decide +kernel
theorem dL_law_206 : decode cL_law 206 = .ok (.iload_n 3, 1) := by decide +kernel
theorem dL_law_207 : decode cL_law 207 = .ok (.iconst 2, 1) := by decide +kernel
theorem dL_law_208 : decode cL_law 208 = .ok (.iadd, 1) := by decide +kernel
theorem dL_law_209 : decode cL_law 209 = .ok (.iaload, 1) := by decide +kernel
theorem dL_law_210 : decode cL_law 210 = .ok (.invokevirtual 30, 3) := by decide +kernel
theorem dL_law_213 : decode cL_law 213 = .ok (.if_icmp .eq 632, 3) := by decide +kernel
theorem dL_law_216 : decode cL_law 216 = .ok (.iconst 0, 1) := by decide +kernel
theorem dL_law_217 : decode cL_law 217 = .ok (.ireturn, 1) := by decide +kernel
theorem dL_law_218 : decode cL_law 218 = .ok (.aload_n 1, 1) := by decide +kernel
theorem dL_law_219 : decode cL_law 219 = .ok (.aload_n 0, 1) := by decide +kernel
theorem dL_law_220 : decode cL_law 220 = .ok (.iload_n 3, 1) := by decide +kernel
theorem dL_law_221 : decode cL_law 221 = .ok (.iconst 1, 1) := by decide +kernel
theorem dL_law_222 : decode cL_law 222 = .ok (.iadd, 1) := by decide +kernel
theorem dL_law_223 : decode cL_law 223 = .ok (.iaload, 1) := by decide +kernel
theorem dL_law_224 : decode cL_law 224 = .ok (.aload_n 0, 1) := by decide +kernel
theorem dL_law_225 : decode cL_law 225 = .ok (.iload_n 3, 1) := by decide +kernel
theorem dL_law_226 : decode cL_law 226 = .ok (.iconst 2, 1) := by decide +kernel
theorem dL_law_227 : decode cL_law 227 = .ok (.iadd, 1) := by decide +kernel
theorem dL_law_228 : decode cL_law 228 = .ok (.iaload, 1) := by decide +kernel
theorem dL_law_229 : decode cL_law 229 = .ok (.aload_n 0, 1) := by decide +kernel
theorem dL_law_230 : decode cL_law 230 = .ok (.iload_n 3, 1) := by decide +kernel
theorem dL_law_231 : decode cL_law 231 = .ok (.iconst 3, 1) := by decide +kernel
theorem dL_law_232 : decode cL_law 232 = .ok (.iadd, 1) := by decide +kernel
theorem dL_law_233 : decode cL_law 233 = .ok (.iaload, 1) := by decide +kernel
theorem dL_law_234 : decode cL_law 234 = .ok (.aload_n 0, 1) := by decide +kernel
theorem dL_law_235 : decode cL_law 235 = .ok (.iload_n 3, 1) := by decide +kernel
theorem dL_law_236 : decode cL_law 236 = .ok (.iconst 4, 1) := by decide +kernel
theorem dL_law_237 : decode cL_law 237 = .ok (.iadd, 1) := by decide +kernel
theorem dL_law_238 : decode cL_law 238 = .ok (.iaload, 1) := by decide +kernel
theorem dL_law_239 : decode cL_law 239 = .ok (.aload_n 0, 1) := by decide +kernel
theorem dL_law_240 : decode cL_law 240 = .ok (.iload_n 3, 1) := by decide +kernel
theorem dL_law_241 : decode cL_law 241 = .ok (.iconst 5, 1) := by decide +kernel
theorem dL_law_242 : decode cL_law 242 = .ok (.iadd, 1) := by decide +kernel
theorem dL_law_243 : decode cL_law 243 = .ok (.iaload, 1) := by decide +kernel
theorem dL_law_244 : decode cL_law 244 = .ok (.ifCond .eq 7, 3) := by decide +kernel
theorem dL_law_247 : decode cL_law 247 = .ok (.iconst 1, 1) := by decide +kernel
theorem dL_law_248 : decode cL_law 248 = .ok (.goto 4, 3) := by decide +kernel
theorem dL_law_251 : decode cL_law 251 = .ok (.iconst 0, 1) := by decide +kernel
theorem dL_law_252 : decode cL_law 252 = .ok (.invokevirtual 31, 3) := by decide +kernel
theorem dL_law_255 : decode cL_law 255 = .ok (.aload_n 2, 1) := by decide +kernel
theorem dL_law_256 : decode cL_law 256 = .ok (.aload_n 0, 1) := by decide +kernel
theorem dL_law_257 : decode cL_law 257 = .ok (.iload_n 3, 1) := by decide +kernel
theorem dL_law_258 : decode cL_law 258 = .ok (.iconst 1, 1) := by decide +kernel
theorem dL_law_259 : decode cL_law 259 = .ok (.iadd, 1) := by decide +kernel
theorem dL_law_260 : decode cL_law 260 = .ok (.iaload, 1) := by decide +kernel
theorem dL_law_261 : decode cL_law 261 = .ok (.aload_n 0, 1) := by decide +kernel
theorem dL_law_262 : decode cL_law 262 = .ok (.iload_n 3, 1) := by decide +kernel
theorem dL_law_263 : decode cL_law 263 = .ok (.iconst 2, 1) := by decide +kernel
theorem dL_law_264 : decode cL_law 264 = .ok (.iadd, 1) := by decide +kernel
theorem dL_law_265 : decode cL_law 265 = .ok (.iaload, 1) := by decide +kernel
theorem dL_law_266 : decode cL_law 266 = .ok (.aload_n 0, 1) := by decide +kernel
theorem dL_law_267 : decode cL_law 267 = .ok (.iload_n 3, 1) := by decide +kernel
theorem dL_law_268 : decode cL_law 268 = .ok (.iconst 3, 1) := by decide +kernel
theorem dL_law_269 : decode cL_law 269 = .ok (.iadd, 1) := by decide +kernel
theorem dL_law_270 : decode cL_law 270 = .ok (.iaload, 1) := by decide +kernel
theorem dL_law_271 : decode cL_law 271 = .ok (.aload_n 0, 1) := by decide +kernel
theorem dL_law_272 : decode cL_law 272 = .ok (.iload_n 3, 1) := by decide +kernel
theorem dL_law_273 : decode cL_law 273 = .ok (.iconst 4, 1) := by decide +kernel
theorem dL_law_274 : decode cL_law 274 = .ok (.iadd, 1) := by decide +kernel
theorem dL_law_275 : decode cL_law 275 = .ok (.iaload, 1) := by decide +kernel
theorem dL_law_276 : decode cL_law 276 = .ok (.aload_n 0, 1) := by decide +kernel
theorem dL_law_277 : decode cL_law 277 = .ok (.iload_n 3, 1) := by decide +kernel
theorem dL_law_278 : decode cL_law 278 = .ok (.iconst 5, 1) := by decide +kernel
theorem dL_law_279 : decode cL_law 279 = .ok (.iadd, 1) := by decide +kernel
theorem dL_law_280 : decode cL_law 280 = .ok (.iaload, 1) := by decide +kernel
theorem dL_law_281 : decode cL_law 281 = .ok (.ifCond .eq 7, 3) := by decide +kernel
theorem dL_law_284 : decode cL_law 284 = .ok (.iconst 1, 1) := by decide +kernel
theorem dL_law_285 : decode cL_law 285 = .ok (.goto 4, 3) := by decide +kernel
theorem dL_law_288 : decode cL_law 288 = .ok (.iconst 0, 1) := by decide +kernel
theorem dL_law_289 : decode cL_law 289 = .ok (.invokevirtual 35, 3) := by decide +kernel
theorem dL_law_292 : decode cL_law 292 = .ok (.if_icmp .eq 553, 3) := by decide +kernel
theorem dL_law_295 : decode cL_law 295 = .ok (.iconst 0, 1) := by decide +kernel
theorem dL_law_296 : decode cL_law 296 = .ok (.ireturn, 1) := by decide +kernel
theorem dL_law_297 : decode cL_law 297 = .ok (.aload_n 1, 1) := by decide +kernel
theorem dL_law_298 : decode cL_law 298 = .ok (.aload_n 0, 1) := by decide +kernel
theorem dL_law_299 : decode cL_law 299 = .ok (.iload_n 3, 1) := by decide +kernel
theorem dL_law_300 : decode cL_law 300 = .ok (.iconst 1, 1) := by decide +kernel
theorem dL_law_301 : decode cL_law 301 = .ok (.iadd, 1) := by decide +kernel
theorem dL_law_302 : decode cL_law 302 = .ok (.iaload, 1) := by decide +kernel
theorem dL_law_303 : decode cL_law 303 = .ok (.aload_n 0, 1) := by decide +kernel
theorem dL_law_304 : decode cL_law 304 = .ok (.iload_n 3, 1) := by decide +kernel
theorem dL_law_305 : decode cL_law 305 = .ok (.iconst 2, 1) := by decide +kernel
theorem dL_law_306 : decode cL_law 306 = .ok (.iadd, 1) := by decide +kernel
theorem dL_law_307 : decode cL_law 307 = .ok (.iaload, 1) := by decide +kernel
theorem dL_law_308 : decode cL_law 308 = .ok (.invokevirtual 36, 3) := by decide +kernel
theorem dL_law_311 : decode cL_law 311 = .ok (.aload_n 2, 1) := by decide +kernel
theorem dL_law_312 : decode cL_law 312 = .ok (.aload_n 0, 1) := by decide +kernel
theorem dL_law_313 : decode cL_law 313 = .ok (.iload_n 3, 1) := by decide +kernel
theorem dL_law_314 : decode cL_law 314 = .ok (.iconst 1, 1) := by decide +kernel
theorem dL_law_315 : decode cL_law 315 = .ok (.iadd, 1) := by decide +kernel
theorem dL_law_316 : decode cL_law 316 = .ok (.iaload, 1) := by decide +kernel
theorem dL_law_317 : decode cL_law 317 = .ok (.aload_n 0, 1) := by decide +kernel
theorem dL_law_318 : decode cL_law 318 = .ok (.iload_n 3, 1) := by decide +kernel
theorem dL_law_319 : decode cL_law 319 = .ok (.iconst 2, 1) := by decide +kernel
theorem dL_law_320 : decode cL_law 320 = .ok (.iadd, 1) := by decide +kernel
theorem dL_law_321 : decode cL_law 321 = .ok (.iaload, 1) := by decide +kernel
theorem dL_law_322 : decode cL_law 322 = .ok (.invokevirtual 39, 3) := by decide +kernel
theorem dL_law_325 : decode cL_law 325 = .ok (.if_icmp .eq 520, 3) := by decide +kernel
theorem dL_law_328 : decode cL_law 328 = .ok (.iconst 0, 1) := by decide +kernel
theorem dL_law_329 : decode cL_law 329 = .ok (.ireturn, 1) := by decide +kernel
theorem dL_law_330 : decode cL_law 330 = .ok (.aload_n 1, 1) := by decide +kernel
theorem dL_law_331 : decode cL_law 331 = .ok (.aload_n 0, 1) := by decide +kernel
theorem dL_law_332 : decode cL_law 332 = .ok (.iload_n 3, 1) := by decide +kernel
theorem dL_law_333 : decode cL_law 333 = .ok (.iconst 1, 1) := by decide +kernel
theorem dL_law_334 : decode cL_law 334 = .ok (.iadd, 1) := by decide +kernel
theorem dL_law_335 : decode cL_law 335 = .ok (.iaload, 1) := by decide +kernel
theorem dL_law_336 : decode cL_law 336 = .ok (.aload_n 0, 1) := by decide +kernel
theorem dL_law_337 : decode cL_law 337 = .ok (.iload_n 3, 1) := by decide +kernel
theorem dL_law_338 : decode cL_law 338 = .ok (.iconst 2, 1) := by decide +kernel
theorem dL_law_339 : decode cL_law 339 = .ok (.iadd, 1) := by decide +kernel
theorem dL_law_340 : decode cL_law 340 = .ok (.iaload, 1) := by decide +kernel
theorem dL_law_341 : decode cL_law 341 = .ok (.invokevirtual 40, 3) := by decide +kernel
theorem dL_law_344 : decode cL_law 344 = .ok (.aload_n 2, 1) := by decide +kernel
theorem dL_law_345 : decode cL_law 345 = .ok (.aload_n 0, 1) := by decide +kernel
theorem dL_law_346 : decode cL_law 346 = .ok (.iload_n 3, 1) := by decide +kernel
theorem dL_law_347 : decode cL_law 347 = .ok (.iconst 1, 1) := by decide +kernel
theorem dL_law_348 : decode cL_law 348 = .ok (.iadd, 1) := by decide +kernel
theorem dL_law_349 : decode cL_law 349 = .ok (.iaload, 1) := by decide +kernel
theorem dL_law_350 : decode cL_law 350 = .ok (.aload_n 0, 1) := by decide +kernel
theorem dL_law_351 : decode cL_law 351 = .ok (.iload_n 3, 1) := by decide +kernel
theorem dL_law_352 : decode cL_law 352 = .ok (.iconst 2, 1) := by decide +kernel
theorem dL_law_353 : decode cL_law 353 = .ok (.iadd, 1) := by decide +kernel
theorem dL_law_354 : decode cL_law 354 = .ok (.iaload, 1) := by decide +kernel
theorem dL_law_355 : decode cL_law 355 = .ok (.invokevirtual 43, 3) := by decide +kernel
theorem dL_law_358 : decode cL_law 358 = .ok (.if_icmp .eq 487, 3) := by decide +kernel
theorem dL_law_361 : decode cL_law 361 = .ok (.iconst 0, 1) := by decide +kernel
theorem dL_law_362 : decode cL_law 362 = .ok (.ireturn, 1) := by decide +kernel
theorem dL_law_363 : decode cL_law 363 = .ok (.aload_n 1, 1) := by decide +kernel
theorem dL_law_364 : decode cL_law 364 = .ok (.aload_n 0, 1) := by decide +kernel
theorem dL_law_365 : decode cL_law 365 = .ok (.iload_n 3, 1) := by decide +kernel
theorem dL_law_366 : decode cL_law 366 = .ok (.iconst 1, 1) := by decide +kernel
theorem dL_law_367 : decode cL_law 367 = .ok (.iadd, 1) := by decide +kernel
theorem dL_law_368 : decode cL_law 368 = .ok (.iaload, 1) := by decide +kernel
theorem dL_law_369 : decode cL_law 369 = .ok (.aload_n 0, 1) := by decide +kernel
theorem dL_law_370 : decode cL_law 370 = .ok (.iload_n 3, 1) := by decide +kernel
theorem dL_law_371 : decode cL_law 371 = .ok (.iconst 2, 1) := by decide +kernel
theorem dL_law_372 : decode cL_law 372 = .ok (.iadd, 1) := by decide +kernel
theorem dL_law_373 : decode cL_law 373 = .ok (.iaload, 1) := by decide +kernel
theorem dL_law_374 : decode cL_law 374 = .ok (.invokevirtual 44, 3) := by decide +kernel
theorem dL_law_377 : decode cL_law 377 = .ok (.aload_n 2, 1) := by decide +kernel
theorem dL_law_378 : decode cL_law 378 = .ok (.aload_n 0, 1) := by decide +kernel
theorem dL_law_379 : decode cL_law 379 = .ok (.iload_n 3, 1) := by decide +kernel
theorem dL_law_380 : decode cL_law 380 = .ok (.iconst 1, 1) := by decide +kernel
theorem dL_law_381 : decode cL_law 381 = .ok (.iadd, 1) := by decide +kernel
theorem dL_law_382 : decode cL_law 382 = .ok (.iaload, 1) := by decide +kernel
theorem dL_law_383 : decode cL_law 383 = .ok (.aload_n 0, 1) := by decide +kernel
theorem dL_law_384 : decode cL_law 384 = .ok (.iload_n 3, 1) := by decide +kernel
theorem dL_law_385 : decode cL_law 385 = .ok (.iconst 2, 1) := by decide +kernel
theorem dL_law_386 : decode cL_law 386 = .ok (.iadd, 1) := by decide +kernel
theorem dL_law_387 : decode cL_law 387 = .ok (.iaload, 1) := by decide +kernel
theorem dL_law_388 : decode cL_law 388 = .ok (.invokevirtual 48, 3) := by decide +kernel
theorem dL_law_391 : decode cL_law 391 = .ok (.if_icmp .eq 454, 3) := by decide +kernel
theorem dL_law_394 : decode cL_law 394 = .ok (.iconst 0, 1) := by decide +kernel
theorem dL_law_395 : decode cL_law 395 = .ok (.ireturn, 1) := by decide +kernel
theorem dL_law_396 : decode cL_law 396 = .ok (.aload_n 1, 1) := by decide +kernel
theorem dL_law_397 : decode cL_law 397 = .ok (.aload_n 0, 1) := by decide +kernel
theorem dL_law_398 : decode cL_law 398 = .ok (.iload_n 3, 1) := by decide +kernel
theorem dL_law_399 : decode cL_law 399 = .ok (.iconst 1, 1) := by decide +kernel
theorem dL_law_400 : decode cL_law 400 = .ok (.iadd, 1) := by decide +kernel
theorem dL_law_401 : decode cL_law 401 = .ok (.iaload, 1) := by decide +kernel
theorem dL_law_402 : decode cL_law 402 = .ok (.aload_n 0, 1) := by decide +kernel
theorem dL_law_403 : decode cL_law 403 = .ok (.iload_n 3, 1) := by decide +kernel
theorem dL_law_404 : decode cL_law 404 = .ok (.iconst 2, 1) := by decide +kernel
theorem dL_law_405 : decode cL_law 405 = .ok (.iadd, 1) := by decide +kernel
theorem dL_law_406 : decode cL_law 406 = .ok (.iaload, 1) := by decide +kernel
theorem dL_law_407 : decode cL_law 407 = .ok (.aload_n 0, 1) := by decide +kernel
theorem dL_law_408 : decode cL_law 408 = .ok (.iload_n 3, 1) := by decide +kernel
theorem dL_law_409 : decode cL_law 409 = .ok (.iconst 3, 1) := by decide +kernel
theorem dL_law_410 : decode cL_law 410 = .ok (.iadd, 1) := by decide +kernel
theorem dL_law_411 : decode cL_law 411 = .ok (.iaload, 1) := by decide +kernel
theorem dL_law_412 : decode cL_law 412 = .ok (.aload_n 0, 1) := by decide +kernel
theorem dL_law_413 : decode cL_law 413 = .ok (.iload_n 3, 1) := by decide +kernel
theorem dL_law_414 : decode cL_law 414 = .ok (.iconst 4, 1) := by decide +kernel
theorem dL_law_415 : decode cL_law 415 = .ok (.iadd, 1) := by decide +kernel
theorem dL_law_416 : decode cL_law 416 = .ok (.iaload, 1) := by decide +kernel
theorem dL_law_417 : decode cL_law 417 = .ok (.aload_n 0, 1) := by decide +kernel
theorem dL_law_418 : decode cL_law 418 = .ok (.iload_n 3, 1) := by decide +kernel
theorem dL_law_419 : decode cL_law 419 = .ok (.iconst 5, 1) := by decide +kernel
theorem dL_law_420 : decode cL_law 420 = .ok (.iadd, 1) := by decide +kernel
theorem dL_law_421 : decode cL_law 421 = .ok (.iaload, 1) := by decide +kernel
theorem dL_law_422 : decode cL_law 422 = .ok (.invokevirtual 49, 3) := by decide +kernel
theorem dL_law_425 : decode cL_law 425 = .ok (.aload_n 2, 1) := by decide +kernel
theorem dL_law_426 : decode cL_law 426 = .ok (.aload_n 0, 1) := by decide +kernel
theorem dL_law_427 : decode cL_law 427 = .ok (.iload_n 3, 1) := by decide +kernel
theorem dL_law_428 : decode cL_law 428 = .ok (.iconst 1, 1) := by decide +kernel
theorem dL_law_429 : decode cL_law 429 = .ok (.iadd, 1) := by decide +kernel
theorem dL_law_430 : decode cL_law 430 = .ok (.iaload, 1) := by decide +kernel
theorem dL_law_431 : decode cL_law 431 = .ok (.aload_n 0, 1) := by decide +kernel
theorem dL_law_432 : decode cL_law 432 = .ok (.iload_n 3, 1) := by decide +kernel
theorem dL_law_433 : decode cL_law 433 = .ok (.iconst 2, 1) := by decide +kernel
theorem dL_law_434 : decode cL_law 434 = .ok (.iadd, 1) := by decide +kernel
theorem dL_law_435 : decode cL_law 435 = .ok (.iaload, 1) := by decide +kernel
theorem dL_law_436 : decode cL_law 436 = .ok (.aload_n 0, 1) := by decide +kernel
theorem dL_law_437 : decode cL_law 437 = .ok (.iload_n 3, 1) := by decide +kernel
theorem dL_law_438 : decode cL_law 438 = .ok (.iconst 3, 1) := by decide +kernel
theorem dL_law_439 : decode cL_law 439 = .ok (.iadd, 1) := by decide +kernel
theorem dL_law_440 : decode cL_law 440 = .ok (.iaload, 1) := by decide +kernel
theorem dL_law_441 : decode cL_law 441 = .ok (.aload_n 0, 1) := by decide +kernel
theorem dL_law_442 : decode cL_law 442 = .ok (.iload_n 3, 1) := by decide +kernel
theorem dL_law_443 : decode cL_law 443 = .ok (.iconst 4, 1) := by decide +kernel
theorem dL_law_444 : decode cL_law 444 = .ok (.iadd, 1) := by decide +kernel
theorem dL_law_445 : decode cL_law 445 = .ok (.iaload, 1) := by decide +kernel
theorem dL_law_446 : decode cL_law 446 = .ok (.aload_n 0, 1) := by decide +kernel
theorem dL_law_447 : decode cL_law 447 = .ok (.iload_n 3, 1) := by decide +kernel
theorem dL_law_448 : decode cL_law 448 = .ok (.iconst 5, 1) := by decide +kernel
theorem dL_law_449 : decode cL_law 449 = .ok (.iadd, 1) := by decide +kernel
theorem dL_law_450 : decode cL_law 450 = .ok (.iaload, 1) := by decide +kernel
theorem dL_law_451 : decode cL_law 451 = .ok (.invokevirtual 53, 3) := by decide +kernel
theorem dL_law_454 : decode cL_law 454 = .ok (.if_icmp .eq 391, 3) := by decide +kernel
theorem dL_law_457 : decode cL_law 457 = .ok (.iconst 0, 1) := by decide +kernel
theorem dL_law_458 : decode cL_law 458 = .ok (.ireturn, 1) := by decide +kernel
theorem dL_law_459 : decode cL_law 459 = .ok (.aload_n 1, 1) := by decide +kernel
theorem dL_law_460 : decode cL_law 460 = .ok (.aload_n 0, 1) := by decide +kernel
theorem dL_law_461 : decode cL_law 461 = .ok (.iload_n 3, 1) := by decide +kernel
theorem dL_law_462 : decode cL_law 462 = .ok (.iconst 1, 1) := by decide +kernel
theorem dL_law_463 : decode cL_law 463 = .ok (.iadd, 1) := by decide +kernel
theorem dL_law_464 : decode cL_law 464 = .ok (.iaload, 1) := by decide +kernel
theorem dL_law_465 : decode cL_law 465 = .ok (.invokevirtual 54, 3) := by decide +kernel
theorem dL_law_468 : decode cL_law 468 = .ok (.aload_n 2, 1) := by decide +kernel
theorem dL_law_469 : decode cL_law 469 = .ok (.aload_n 0, 1) := by decide +kernel
theorem dL_law_470 : decode cL_law 470 = .ok (.iload_n 3, 1) := by decide +kernel
theorem dL_law_471 : decode cL_law 471 = .ok (.iconst 1, 1) := by decide +kernel
theorem dL_law_472 : decode cL_law 472 = .ok (.iadd, 1) := by decide +kernel
theorem dL_law_473 : decode cL_law 473 = .ok (.iaload, 1) := by decide +kernel
theorem dL_law_474 : decode cL_law 474 = .ok (.invokevirtual 58, 3) := by decide +kernel
theorem dL_law_477 : decode cL_law 477 = .ok (.if_icmp .eq 368, 3) := by decide +kernel
theorem dL_law_480 : decode cL_law 480 = .ok (.iconst 0, 1) := by decide +kernel
theorem dL_law_481 : decode cL_law 481 = .ok (.ireturn, 1) := by decide +kernel
theorem dL_law_482 : decode cL_law 482 = .ok (.aload_n 1, 1) := by decide +kernel
theorem dL_law_483 : decode cL_law 483 = .ok (.invokevirtual 59, 3) := by decide +kernel
theorem dL_law_486 : decode cL_law 486 = .ok (.aload_n 2, 1) := by decide +kernel
theorem dL_law_487 : decode cL_law 487 = .ok (.invokevirtual 63, 3) := by decide +kernel
theorem dL_law_490 : decode cL_law 490 = .ok (.if_icmp .eq 355, 3) := by decide +kernel
theorem dL_law_493 : decode cL_law 493 = .ok (.iconst 0, 1) := by decide +kernel
theorem dL_law_494 : decode cL_law 494 = .ok (.ireturn, 1) := by decide +kernel
theorem dL_law_495 : decode cL_law 495 = .ok (.aload_n 1, 1) := by decide +kernel
theorem dL_law_496 : decode cL_law 496 = .ok (.aload_n 0, 1) := by decide +kernel
theorem dL_law_497 : decode cL_law 497 = .ok (.iload_n 3, 1) := by decide +kernel
theorem dL_law_498 : decode cL_law 498 = .ok (.iconst 1, 1) := by decide +kernel
theorem dL_law_499 : decode cL_law 499 = .ok (.iadd, 1) := by decide +kernel
theorem dL_law_500 : decode cL_law 500 = .ok (.iaload, 1) := by decide +kernel
theorem dL_law_501 : decode cL_law 501 = .ok (.invokevirtual 64, 3) := by decide +kernel
theorem dL_law_504 : decode cL_law 504 = .ok (.aload_n 2, 1) := by decide +kernel
theorem dL_law_505 : decode cL_law 505 = .ok (.aload_n 0, 1) := by decide +kernel
theorem dL_law_506 : decode cL_law 506 = .ok (.iload_n 3, 1) := by decide +kernel
theorem dL_law_507 : decode cL_law 507 = .ok (.iconst 1, 1) := by decide +kernel
theorem dL_law_508 : decode cL_law 508 = .ok (.iadd, 1) := by decide +kernel
theorem dL_law_509 : decode cL_law 509 = .ok (.iaload, 1) := by decide +kernel
theorem dL_law_510 : decode cL_law 510 = .ok (.invokevirtual 67, 3) := by decide +kernel
theorem dL_law_513 : decode cL_law 513 = .ok (.if_icmp .eq 332, 3) := by decide +kernel
theorem dL_law_516 : decode cL_law 516 = .ok (.iconst 0, 1) := by decide +kernel
theorem dL_law_517 : decode cL_law 517 = .ok (.ireturn, 1) := by decide +kernel
theorem dL_law_518 : decode cL_law 518 = .ok (.aload_n 1, 1) := by decide +kernel
theorem dL_law_519 : decode cL_law 519 = .ok (.aload_n 0, 1) := by decide +kernel
theorem dL_law_520 : decode cL_law 520 = .ok (.iload_n 3, 1) := by decide +kernel
theorem dL_law_521 : decode cL_law 521 = .ok (.iconst 1, 1) := by decide +kernel
theorem dL_law_522 : decode cL_law 522 = .ok (.iadd, 1) := by decide +kernel
theorem dL_law_523 : decode cL_law 523 = .ok (.iaload, 1) := by decide +kernel
theorem dL_law_524 : decode cL_law 524 = .ok (.aload_n 0, 1) := by decide +kernel
theorem dL_law_525 : decode cL_law 525 = .ok (.iload_n 3, 1) := by decide +kernel
theorem dL_law_526 : decode cL_law 526 = .ok (.iconst 2, 1) := by decide +kernel
theorem dL_law_527 : decode cL_law 527 = .ok (.iadd, 1) := by decide +kernel
theorem dL_law_528 : decode cL_law 528 = .ok (.iaload, 1) := by decide +kernel
theorem dL_law_529 : decode cL_law 529 = .ok (.invokevirtual 68, 3) := by decide +kernel
theorem dL_law_532 : decode cL_law 532 = .ok (.aload_n 2, 1) := by decide +kernel
theorem dL_law_533 : decode cL_law 533 = .ok (.aload_n 0, 1) := by decide +kernel
theorem dL_law_534 : decode cL_law 534 = .ok (.iload_n 3, 1) := by decide +kernel
theorem dL_law_535 : decode cL_law 535 = .ok (.iconst 1, 1) := by decide +kernel
theorem dL_law_536 : decode cL_law 536 = .ok (.iadd, 1) := by decide +kernel
theorem dL_law_537 : decode cL_law 537 = .ok (.iaload, 1) := by decide +kernel
theorem dL_law_538 : decode cL_law 538 = .ok (.aload_n 0, 1) := by decide +kernel
theorem dL_law_539 : decode cL_law 539 = .ok (.iload_n 3, 1) := by decide +kernel
theorem dL_law_540 : decode cL_law 540 = .ok (.iconst 2, 1) := by decide +kernel
theorem dL_law_541 : decode cL_law 541 = .ok (.iadd, 1) := by decide +kernel
theorem dL_law_542 : decode cL_law 542 = .ok (.iaload, 1) := by decide +kernel
theorem dL_law_543 : decode cL_law 543 = .ok (.invokevirtual 71, 3) := by decide +kernel
theorem dL_law_546 : decode cL_law 546 = .ok (.if_icmp .eq 299, 3) := by decide +kernel
theorem dL_law_549 : decode cL_law 549 = .ok (.iconst 0, 1) := by decide +kernel
theorem dL_law_550 : decode cL_law 550 = .ok (.ireturn, 1) := by decide +kernel
theorem dL_law_551 : decode cL_law 551 = .ok (.aload_n 1, 1) := by decide +kernel
theorem dL_law_552 : decode cL_law 552 = .ok (.aload_n 0, 1) := by decide +kernel
theorem dL_law_553 : decode cL_law 553 = .ok (.iload_n 3, 1) := by decide +kernel
theorem dL_law_554 : decode cL_law 554 = .ok (.iconst 1, 1) := by decide +kernel
theorem dL_law_555 : decode cL_law 555 = .ok (.iadd, 1) := by decide +kernel
theorem dL_law_556 : decode cL_law 556 = .ok (.iaload, 1) := by decide +kernel
theorem dL_law_557 : decode cL_law 557 = .ok (.aload_n 0, 1) := by decide +kernel
theorem dL_law_558 : decode cL_law 558 = .ok (.iload_n 3, 1) := by decide +kernel
theorem dL_law_559 : decode cL_law 559 = .ok (.iconst 2, 1) := by decide +kernel
theorem dL_law_560 : decode cL_law 560 = .ok (.iadd, 1) := by decide +kernel
theorem dL_law_561 : decode cL_law 561 = .ok (.iaload, 1) := by decide +kernel
theorem dL_law_562 : decode cL_law 562 = .ok (.invokevirtual 72, 3) := by decide +kernel
theorem dL_law_565 : decode cL_law 565 = .ok (.aload_n 2, 1) := by decide +kernel
theorem dL_law_566 : decode cL_law 566 = .ok (.aload_n 0, 1) := by decide +kernel
theorem dL_law_567 : decode cL_law 567 = .ok (.iload_n 3, 1) := by decide +kernel
theorem dL_law_568 : decode cL_law 568 = .ok (.iconst 1, 1) := by decide +kernel
theorem dL_law_569 : decode cL_law 569 = .ok (.iadd, 1) := by decide +kernel
theorem dL_law_570 : decode cL_law 570 = .ok (.iaload, 1) := by decide +kernel
theorem dL_law_571 : decode cL_law 571 = .ok (.aload_n 0, 1) := by decide +kernel
theorem dL_law_572 : decode cL_law 572 = .ok (.iload_n 3, 1) := by decide +kernel
theorem dL_law_573 : decode cL_law 573 = .ok (.iconst 2, 1) := by decide +kernel
theorem dL_law_574 : decode cL_law 574 = .ok (.iadd, 1) := by decide +kernel
theorem dL_law_575 : decode cL_law 575 = .ok (.iaload, 1) := by decide +kernel
theorem dL_law_576 : decode cL_law 576 = .ok (.invokevirtual 75, 3) := by decide +kernel
theorem dL_law_579 : decode cL_law 579 = .ok (.if_icmp .eq 266, 3) := by decide +kernel
theorem dL_law_582 : decode cL_law 582 = .ok (.iconst 0, 1) := by decide +kernel
theorem dL_law_583 : decode cL_law 583 = .ok (.ireturn, 1) := by decide +kernel
theorem dL_law_584 : decode cL_law 584 = .ok (.aload_n 1, 1) := by decide +kernel
theorem dL_law_585 : decode cL_law 585 = .ok (.aload_n 0, 1) := by decide +kernel
theorem dL_law_586 : decode cL_law 586 = .ok (.iload_n 3, 1) := by decide +kernel
theorem dL_law_587 : decode cL_law 587 = .ok (.iconst 1, 1) := by decide +kernel
theorem dL_law_588 : decode cL_law 588 = .ok (.iadd, 1) := by decide +kernel
theorem dL_law_589 : decode cL_law 589 = .ok (.iaload, 1) := by decide +kernel
theorem dL_law_590 : decode cL_law 590 = .ok (.aload_n 0, 1) := by decide +kernel
theorem dL_law_591 : decode cL_law 591 = .ok (.iload_n 3, 1) := by decide +kernel
theorem dL_law_592 : decode cL_law 592 = .ok (.iconst 2, 1) := by decide +kernel
theorem dL_law_593 : decode cL_law 593 = .ok (.iadd, 1) := by decide +kernel
theorem dL_law_594 : decode cL_law 594 = .ok (.iaload, 1) := by decide +kernel
theorem dL_law_595 : decode cL_law 595 = .ok (.invokevirtual 76, 3) := by decide +kernel
theorem dL_law_598 : decode cL_law 598 = .ok (.aload_n 2, 1) := by decide +kernel
theorem dL_law_599 : decode cL_law 599 = .ok (.aload_n 0, 1) := by decide +kernel
theorem dL_law_600 : decode cL_law 600 = .ok (.iload_n 3, 1) := by decide +kernel
theorem dL_law_601 : decode cL_law 601 = .ok (.iconst 1, 1) := by decide +kernel
theorem dL_law_602 : decode cL_law 602 = .ok (.iadd, 1) := by decide +kernel
theorem dL_law_603 : decode cL_law 603 = .ok (.iaload, 1) := by decide +kernel
theorem dL_law_604 : decode cL_law 604 = .ok (.aload_n 0, 1) := by decide +kernel
theorem dL_law_605 : decode cL_law 605 = .ok (.iload_n 3, 1) := by decide +kernel
theorem dL_law_606 : decode cL_law 606 = .ok (.iconst 2, 1) := by decide +kernel
theorem dL_law_607 : decode cL_law 607 = .ok (.iadd, 1) := by decide +kernel
theorem dL_law_608 : decode cL_law 608 = .ok (.iaload, 1) := by decide +kernel
theorem dL_law_609 : decode cL_law 609 = .ok (.invokevirtual 79, 3) := by decide +kernel
theorem dL_law_612 : decode cL_law 612 = .ok (.if_icmp .eq 233, 3) := by decide +kernel
theorem dL_law_615 : decode cL_law 615 = .ok (.iconst 0, 1) := by decide +kernel
theorem dL_law_616 : decode cL_law 616 = .ok (.ireturn, 1) := by decide +kernel
theorem dL_law_617 : decode cL_law 617 = .ok (.aload_n 1, 1) := by decide +kernel
theorem dL_law_618 : decode cL_law 618 = .ok (.aload_n 0, 1) := by decide +kernel
theorem dL_law_619 : decode cL_law 619 = .ok (.iload_n 3, 1) := by decide +kernel
theorem dL_law_620 : decode cL_law 620 = .ok (.iconst 1, 1) := by decide +kernel
theorem dL_law_621 : decode cL_law 621 = .ok (.iadd, 1) := by decide +kernel
theorem dL_law_622 : decode cL_law 622 = .ok (.iaload, 1) := by decide +kernel
theorem dL_law_623 : decode cL_law 623 = .ok (.invokevirtual 80, 3) := by decide +kernel
theorem dL_law_626 : decode cL_law 626 = .ok (.aload_n 2, 1) := by decide +kernel
theorem dL_law_627 : decode cL_law 627 = .ok (.aload_n 0, 1) := by decide +kernel
theorem dL_law_628 : decode cL_law 628 = .ok (.iload_n 3, 1) := by decide +kernel
theorem dL_law_629 : decode cL_law 629 = .ok (.iconst 1, 1) := by decide +kernel
theorem dL_law_630 : decode cL_law 630 = .ok (.iadd, 1) := by decide +kernel
theorem dL_law_631 : decode cL_law 631 = .ok (.iaload, 1) := by decide +kernel
theorem dL_law_632 : decode cL_law 632 = .ok (.invokevirtual 83, 3) := by decide +kernel
theorem dL_law_635 : decode cL_law 635 = .ok (.if_icmp .eq 210, 3) := by decide +kernel
theorem dL_law_638 : decode cL_law 638 = .ok (.iconst 0, 1) := by decide +kernel
theorem dL_law_639 : decode cL_law 639 = .ok (.ireturn, 1) := by decide +kernel
theorem dL_law_640 : decode cL_law 640 = .ok (.aload_n 1, 1) := by decide +kernel
theorem dL_law_641 : decode cL_law 641 = .ok (.aload_n 0, 1) := by decide +kernel
theorem dL_law_642 : decode cL_law 642 = .ok (.iload_n 3, 1) := by decide +kernel
theorem dL_law_643 : decode cL_law 643 = .ok (.iconst 1, 1) := by decide +kernel
theorem dL_law_644 : decode cL_law 644 = .ok (.iadd, 1) := by decide +kernel
theorem dL_law_645 : decode cL_law 645 = .ok (.iaload, 1) := by decide +kernel
theorem dL_law_646 : decode cL_law 646 = .ok (.aload_n 0, 1) := by decide +kernel
theorem dL_law_647 : decode cL_law 647 = .ok (.iload_n 3, 1) := by decide +kernel
theorem dL_law_648 : decode cL_law 648 = .ok (.iconst 2, 1) := by decide +kernel
theorem dL_law_649 : decode cL_law 649 = .ok (.iadd, 1) := by decide +kernel
theorem dL_law_650 : decode cL_law 650 = .ok (.iaload, 1) := by decide +kernel
theorem dL_law_651 : decode cL_law 651 = .ok (.aload_n 0, 1) := by decide +kernel
theorem dL_law_652 : decode cL_law 652 = .ok (.iload_n 3, 1) := by decide +kernel
theorem dL_law_653 : decode cL_law 653 = .ok (.iconst 3, 1) := by decide +kernel
theorem dL_law_654 : decode cL_law 654 = .ok (.iadd, 1) := by decide +kernel
theorem dL_law_655 : decode cL_law 655 = .ok (.iaload, 1) := by decide +kernel
theorem dL_law_656 : decode cL_law 656 = .ok (.invokevirtual 84, 3) := by decide +kernel
theorem dL_law_659 : decode cL_law 659 = .ok (.aload_n 2, 1) := by decide +kernel
theorem dL_law_660 : decode cL_law 660 = .ok (.aload_n 0, 1) := by decide +kernel
theorem dL_law_661 : decode cL_law 661 = .ok (.iload_n 3, 1) := by decide +kernel
theorem dL_law_662 : decode cL_law 662 = .ok (.iconst 1, 1) := by decide +kernel
theorem dL_law_663 : decode cL_law 663 = .ok (.iadd, 1) := by decide +kernel
theorem dL_law_664 : decode cL_law 664 = .ok (.iaload, 1) := by decide +kernel
theorem dL_law_665 : decode cL_law 665 = .ok (.aload_n 0, 1) := by decide +kernel
theorem dL_law_666 : decode cL_law 666 = .ok (.iload_n 3, 1) := by decide +kernel
theorem dL_law_667 : decode cL_law 667 = .ok (.iconst 2, 1) := by decide +kernel
theorem dL_law_668 : decode cL_law 668 = .ok (.iadd, 1) := by decide +kernel
theorem dL_law_669 : decode cL_law 669 = .ok (.iaload, 1) := by decide +kernel
theorem dL_law_670 : decode cL_law 670 = .ok (.aload_n 0, 1) := by decide +kernel
theorem dL_law_671 : decode cL_law 671 = .ok (.iload_n 3, 1) := by decide +kernel
theorem dL_law_672 : decode cL_law 672 = .ok (.iconst 3, 1) := by decide +kernel
theorem dL_law_673 : decode cL_law 673 = .ok (.iadd, 1) := by decide +kernel
theorem dL_law_674 : decode cL_law 674 = .ok (.iaload, 1) := by decide +kernel
theorem dL_law_675 : decode cL_law 675 = .ok (.invokevirtual 88, 3) := by decide +kernel
theorem dL_law_678 : decode cL_law 678 = .ok (.if_icmp .eq 167, 3) := by decide +kernel
theorem dL_law_681 : decode cL_law 681 = .ok (.iconst 0, 1) := by decide +kernel
theorem dL_law_682 : decode cL_law 682 = .ok (.ireturn, 1) := by decide +kernel
theorem dL_law_683 : decode cL_law 683 = .ok (.aload_n 1, 1) := by decide +kernel
theorem dL_law_684 : decode cL_law 684 = .ok (.aload_n 0, 1) := by decide +kernel
theorem dL_law_685 : decode cL_law 685 = .ok (.iload_n 3, 1) := by decide +kernel
theorem dL_law_686 : decode cL_law 686 = .ok (.iconst 1, 1) := by decide +kernel
theorem dL_law_687 : decode cL_law 687 = .ok (.iadd, 1) := by decide +kernel
theorem dL_law_688 : decode cL_law 688 = .ok (.iaload, 1) := by decide +kernel
theorem dL_law_689 : decode cL_law 689 = .ok (.aload_n 0, 1) := by decide +kernel
theorem dL_law_690 : decode cL_law 690 = .ok (.iload_n 3, 1) := by decide +kernel
theorem dL_law_691 : decode cL_law 691 = .ok (.iconst 2, 1) := by decide +kernel
theorem dL_law_692 : decode cL_law 692 = .ok (.iadd, 1) := by decide +kernel
theorem dL_law_693 : decode cL_law 693 = .ok (.iaload, 1) := by decide +kernel
theorem dL_law_694 : decode cL_law 694 = .ok (.aload_n 0, 1) := by decide +kernel
theorem dL_law_695 : decode cL_law 695 = .ok (.iload_n 3, 1) := by decide +kernel
theorem dL_law_696 : decode cL_law 696 = .ok (.iconst 3, 1) := by decide +kernel
theorem dL_law_697 : decode cL_law 697 = .ok (.iadd, 1) := by decide +kernel
theorem dL_law_698 : decode cL_law 698 = .ok (.iaload, 1) := by decide +kernel
theorem dL_law_699 : decode cL_law 699 = .ok (.aload_n 0, 1) := by decide +kernel
theorem dL_law_700 : decode cL_law 700 = .ok (.iload_n 3, 1) := by decide +kernel
theorem dL_law_701 : decode cL_law 701 = .ok (.iconst 4, 1) := by decide +kernel
theorem dL_law_702 : decode cL_law 702 = .ok (.iadd, 1) := by decide +kernel
theorem dL_law_703 : decode cL_law 703 = .ok (.iaload, 1) := by decide +kernel
theorem dL_law_704 : decode cL_law 704 = .ok (.invokevirtual 89, 3) := by decide +kernel
theorem dL_law_707 : decode cL_law 707 = .ok (.aload_n 2, 1) := by decide +kernel
theorem dL_law_708 : decode cL_law 708 = .ok (.aload_n 0, 1) := by decide +kernel
theorem dL_law_709 : decode cL_law 709 = .ok (.iload_n 3, 1) := by decide +kernel
theorem dL_law_710 : decode cL_law 710 = .ok (.iconst 1, 1) := by decide +kernel
theorem dL_law_711 : decode cL_law 711 = .ok (.iadd, 1) := by decide +kernel
theorem dL_law_712 : decode cL_law 712 = .ok (.iaload, 1) := by decide +kernel
theorem dL_law_713 : decode cL_law 713 = .ok (.aload_n 0, 1) := by decide +kernel
theorem dL_law_714 : decode cL_law 714 = .ok (.iload_n 3, 1) := by decide +kernel
theorem dL_law_715 : decode cL_law 715 = .ok (.iconst 2, 1) := by decide +kernel
theorem dL_law_716 : decode cL_law 716 = .ok (.iadd, 1) := by decide +kernel
theorem dL_law_717 : decode cL_law 717 = .ok (.iaload, 1) := by decide +kernel
theorem dL_law_718 : decode cL_law 718 = .ok (.aload_n 0, 1) := by decide +kernel
theorem dL_law_719 : decode cL_law 719 = .ok (.iload_n 3, 1) := by decide +kernel
theorem dL_law_720 : decode cL_law 720 = .ok (.iconst 3, 1) := by decide +kernel
theorem dL_law_721 : decode cL_law 721 = .ok (.iadd, 1) := by decide +kernel
theorem dL_law_722 : decode cL_law 722 = .ok (.iaload, 1) := by decide +kernel
theorem dL_law_723 : decode cL_law 723 = .ok (.aload_n 0, 1) := by decide +kernel
theorem dL_law_724 : decode cL_law 724 = .ok (.iload_n 3, 1) := by decide +kernel
theorem dL_law_725 : decode cL_law 725 = .ok (.iconst 4, 1) := by decide +kernel
theorem dL_law_726 : decode cL_law 726 = .ok (.iadd, 1) := by decide +kernel
theorem dL_law_727 : decode cL_law 727 = .ok (.iaload, 1) := by decide +kernel
theorem dL_law_728 : decode cL_law 728 = .ok (.invokevirtual 93, 3) := by decide +kernel
theorem dL_law_731 : decode cL_law 731 = .ok (.if_icmp .eq 114, 3) := by decide +kernel
theorem dL_law_734 : decode cL_law 734 = .ok (.iconst 0, 1) := by decide +kernel
theorem dL_law_735 : decode cL_law 735 = .ok (.ireturn, 1) := by decide +kernel
theorem dL_law_736 : decode cL_law 736 = .ok (.aload_n 1, 1) := by decide +kernel
theorem dL_law_737 : decode cL_law 737 = .ok (.aload_n 0, 1) := by decide +kernel
theorem dL_law_738 : decode cL_law 738 = .ok (.iload_n 3, 1) := by decide +kernel
theorem dL_law_739 : decode cL_law 739 = .ok (.iconst 1, 1) := by decide +kernel
theorem dL_law_740 : decode cL_law 740 = .ok (.iadd, 1) := by decide +kernel
theorem dL_law_741 : decode cL_law 741 = .ok (.iaload, 1) := by decide +kernel
theorem dL_law_742 : decode cL_law 742 = .ok (.aload_n 0, 1) := by decide +kernel
theorem dL_law_743 : decode cL_law 743 = .ok (.iload_n 3, 1) := by decide +kernel
theorem dL_law_744 : decode cL_law 744 = .ok (.iconst 2, 1) := by decide +kernel
theorem dL_law_745 : decode cL_law 745 = .ok (.iadd, 1) := by decide +kernel
theorem dL_law_746 : decode cL_law 746 = .ok (.iaload, 1) := by decide +kernel
theorem dL_law_747 : decode cL_law 747 = .ok (.aload_n 0, 1) := by decide +kernel
theorem dL_law_748 : decode cL_law 748 = .ok (.iload_n 3, 1) := by decide +kernel
theorem dL_law_749 : decode cL_law 749 = .ok (.iconst 3, 1) := by decide +kernel
theorem dL_law_750 : decode cL_law 750 = .ok (.iadd, 1) := by decide +kernel
theorem dL_law_751 : decode cL_law 751 = .ok (.iaload, 1) := by decide +kernel
theorem dL_law_752 : decode cL_law 752 = .ok (.aload_n 0, 1) := by decide +kernel
theorem dL_law_753 : decode cL_law 753 = .ok (.iload_n 3, 1) := by decide +kernel
theorem dL_law_754 : decode cL_law 754 = .ok (.iconst 4, 1) := by decide +kernel
theorem dL_law_755 : decode cL_law 755 = .ok (.iadd, 1) := by decide +kernel
theorem dL_law_756 : decode cL_law 756 = .ok (.iaload, 1) := by decide +kernel
theorem dL_law_757 : decode cL_law 757 = .ok (.aload_n 0, 1) := by decide +kernel
theorem dL_law_758 : decode cL_law 758 = .ok (.iload_n 3, 1) := by decide +kernel
theorem dL_law_759 : decode cL_law 759 = .ok (.iconst 5, 1) := by decide +kernel
theorem dL_law_760 : decode cL_law 760 = .ok (.iadd, 1) := by decide +kernel
theorem dL_law_761 : decode cL_law 761 = .ok (.iaload, 1) := by decide +kernel
theorem dL_law_762 : decode cL_law 762 = .ok (.invokevirtual 94, 3) := by decide +kernel
theorem dL_law_765 : decode cL_law 765 = .ok (.aload_n 2, 1) := by decide +kernel
theorem dL_law_766 : decode cL_law 766 = .ok (.aload_n 0, 1) := by decide +kernel
theorem dL_law_767 : decode cL_law 767 = .ok (.iload_n 3, 1) := by decide +kernel
theorem dL_law_768 : decode cL_law 768 = .ok (.iconst 1, 1) := by decide +kernel
theorem dL_law_769 : decode cL_law 769 = .ok (.iadd, 1) := by decide +kernel
theorem dL_law_770 : decode cL_law 770 = .ok (.iaload, 1) := by decide +kernel
theorem dL_law_771 : decode cL_law 771 = .ok (.aload_n 0, 1) := by decide +kernel
theorem dL_law_772 : decode cL_law 772 = .ok (.iload_n 3, 1) := by decide +kernel
theorem dL_law_773 : decode cL_law 773 = .ok (.iconst 2, 1) := by decide +kernel
theorem dL_law_774 : decode cL_law 774 = .ok (.iadd, 1) := by decide +kernel
theorem dL_law_775 : decode cL_law 775 = .ok (.iaload, 1) := by decide +kernel
theorem dL_law_776 : decode cL_law 776 = .ok (.aload_n 0, 1) := by decide +kernel
theorem dL_law_777 : decode cL_law 777 = .ok (.iload_n 3, 1) := by decide +kernel
theorem dL_law_778 : decode cL_law 778 = .ok (.iconst 3, 1) := by decide +kernel
theorem dL_law_779 : decode cL_law 779 = .ok (.iadd, 1) := by decide +kernel
theorem dL_law_780 : decode cL_law 780 = .ok (.iaload, 1) := by decide +kernel
theorem dL_law_781 : decode cL_law 781 = .ok (.aload_n 0, 1) := by decide +kernel
theorem dL_law_782 : decode cL_law 782 = .ok (.iload_n 3, 1) := by decide +kernel
theorem dL_law_783 : decode cL_law 783 = .ok (.iconst 4, 1) := by decide +kernel
theorem dL_law_784 : decode cL_law 784 = .ok (.iadd, 1) := by decide +kernel
theorem dL_law_785 : decode cL_law 785 = .ok (.iaload, 1) := by decide +kernel
theorem dL_law_786 : decode cL_law 786 = .ok (.aload_n 0, 1) := by decide +kernel
theorem dL_law_787 : decode cL_law 787 = .ok (.iload_n 3, 1) := by decide +kernel
theorem dL_law_788 : decode cL_law 788 = .ok (.iconst 5, 1) := by decide +kernel
theorem dL_law_789 : decode cL_law 789 = .ok (.iadd, 1) := by decide +kernel
theorem dL_law_790 : decode cL_law 790 = .ok (.iaload, 1) := by decide +kernel
theorem dL_law_791 : decode cL_law 791 = .ok (.invokevirtual 97, 3) := by decide +kernel
theorem dL_law_794 : decode cL_law 794 = .ok (.if_icmp .eq 51, 3) := by decide +kernel
theorem dL_law_797 : decode cL_law 797 = .ok (.iconst 0, 1) := by decide +kernel
theorem dL_law_798 : decode cL_law 798 = .ok (.ireturn, 1) := by decide +kernel
theorem dL_law_799 : decode cL_law 799 = .ok (.aload_n 1, 1) := by decide +kernel
theorem dL_law_800 : decode cL_law 800 = .ok (.aload_n 0, 1) := by decide +kernel
theorem dL_law_801 : decode cL_law 801 = .ok (.iload_n 3, 1) := by decide +kernel
theorem dL_law_802 : decode cL_law 802 = .ok (.iconst 1, 1) := by decide +kernel
theorem dL_law_803 : decode cL_law 803 = .ok (.iadd, 1) := by decide +kernel
theorem dL_law_804 : decode cL_law 804 = .ok (.iaload, 1) := by decide +kernel
theorem dL_law_805 : decode cL_law 805 = .ok (.invokevirtual 98, 3) := by decide +kernel
theorem dL_law_808 : decode cL_law 808 = .ok (.aload_n 2, 1) := by decide +kernel
theorem dL_law_809 : decode cL_law 809 = .ok (.aload_n 0, 1) := by decide +kernel
theorem dL_law_810 : decode cL_law 810 = .ok (.iload_n 3, 1) := by decide +kernel
theorem dL_law_811 : decode cL_law 811 = .ok (.iconst 1, 1) := by decide +kernel
theorem dL_law_812 : decode cL_law 812 = .ok (.iadd, 1) := by decide +kernel
theorem dL_law_813 : decode cL_law 813 = .ok (.iaload, 1) := by decide +kernel
theorem dL_law_814 : decode cL_law 814 = .ok (.invokevirtual 101, 3) := by decide +kernel
theorem dL_law_817 : decode cL_law 817 = .ok (.if_icmp .eq 28, 3) := by decide +kernel
theorem dL_law_820 : decode cL_law 820 = .ok (.iconst 0, 1) := by decide +kernel
theorem dL_law_821 : decode cL_law 821 = .ok (.ireturn, 1) := by decide +kernel
theorem dL_law_822 : decode cL_law 822 = .ok (.aload_n 1, 1) := by decide +kernel
theorem dL_law_823 : decode cL_law 823 = .ok (.aload_n 0, 1) := by decide +kernel
theorem dL_law_824 : decode cL_law 824 = .ok (.iload_n 3, 1) := by decide +kernel
theorem dL_law_825 : decode cL_law 825 = .ok (.iconst 1, 1) := by decide +kernel
theorem dL_law_826 : decode cL_law 826 = .ok (.iadd, 1) := by decide +kernel
theorem dL_law_827 : decode cL_law 827 = .ok (.iaload, 1) := by decide +kernel
theorem dL_law_828 : decode cL_law 828 = .ok (.invokevirtual 102, 3) := by decide +kernel
theorem dL_law_831 : decode cL_law 831 = .ok (.aload_n 2, 1) := by decide +kernel
theorem dL_law_832 : decode cL_law 832 = .ok (.aload_n 0, 1) := by decide +kernel
theorem dL_law_833 : decode cL_law 833 = .ok (.iload_n 3, 1) := by decide +kernel
theorem dL_law_834 : decode cL_law 834 = .ok (.iconst 1, 1) := by decide +kernel
theorem dL_law_835 : decode cL_law 835 = .ok (.iadd, 1) := by decide +kernel
theorem dL_law_836 : decode cL_law 836 = .ok (.iaload, 1) := by decide +kernel
theorem dL_law_837 : decode cL_law 837 = .ok (.invokevirtual 105, 3) := by decide +kernel
theorem dL_law_840 : decode cL_law 840 = .ok (.if_icmp .eq 5, 3) := by decide +kernel
theorem dL_law_843 : decode cL_law 843 = .ok (.iconst 0, 1) := by decide +kernel
theorem dL_law_844 : decode cL_law 844 = .ok (.ireturn, 1) := by decide +kernel
theorem dL_law_845 : decode cL_law 845 = .ok (.iinc 3 6, 3) := by decide +kernel
theorem dL_law_848 : decode cL_law 848 = .ok (.goto (-820), 3) := by decide +kernel
theorem dL_law_851 : decode cL_law 851 = .ok (.iconst 1, 1) := by decide +kernel
theorem dL_law_852 : decode cL_law 852 = .ok (.ireturn, 1) := by decide +kernel
abbrev vwCl : List vw_C := [(RX0, TX0, 6), (RX1, TX1, 12), (RX2, TX2, 4), (RX3, TX3, 5), (RX4, TX4, 4), (RX5, TX5, 10), (RX6, TX6, 6), (RX7, TX7, 15), (RX8, TX8, 47)]
end
section
theorem zz_last : True := trivial
end

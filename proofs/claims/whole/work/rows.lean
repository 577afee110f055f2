section
-- ===== PART A: goes FIRST, ahead of the names: the tables' words, and 'selects' of the private methods out of them =====
/-- a private method of a class that the tables say can be made, by its rows of tables_1 -/
def lw_okq (q : MethodName × Nat) : Prop := (q.1.cls ≠ "java/lang/invoke/MethodHandle" ∧ q.1.cls ≠ "java/lang/invoke/VarHandle") ∧ Cond.instantiable q.1.cls q.2 ∈ tables_1 ∧ Cond.privateMethod q.1 ∈ tables_1 ∧ Cond.instanceMethod q.1 ∈ tables_1
theorem lw_p0 : lw_okq (⟨"TankChain", "tankAt", "(I)LTankChain$Tank;"⟩, 15) := ⟨⟨by decide +kernel, by decide +kernel⟩, List.mem_of_getElem? (i := 16) (by decide +kernel), List.mem_of_getElem? (i := 281) (by decide +kernel), List.mem_of_getElem? (i := 282) (by decide +kernel)⟩
theorem lw_p1 : lw_okq (⟨"TankChain$Tape", "putByte", "(I)V"⟩, 6) := ⟨⟨by decide +kernel, by decide +kernel⟩, List.mem_of_getElem? (i := 26) (by decide +kernel), List.mem_of_getElem? (i := 393) (by decide +kernel), List.mem_of_getElem? (i := 394) (by decide +kernel)⟩
theorem lw_p2 : lw_okq (⟨"TankChain$Tape", "nextToken", "()V"⟩, 6) := ⟨⟨by decide +kernel, by decide +kernel⟩, List.mem_of_getElem? (i := 26) (by decide +kernel), List.mem_of_getElem? (i := 409) (by decide +kernel), List.mem_of_getElem? (i := 410) (by decide +kernel)⟩
theorem lw_p3 : lw_okq (⟨"TankChain$Tape", "byteAt", "(I)I"⟩, 6) := ⟨⟨by decide +kernel, by decide +kernel⟩, List.mem_of_getElem? (i := 26) (by decide +kernel), List.mem_of_getElem? (i := 413) (by decide +kernel), List.mem_of_getElem? (i := 414) (by decide +kernel)⟩
theorem lw_p4 : lw_okq (⟨"TankChain$Tape", "readStatement", "(LTankChain$Custom;)Z"⟩, 6) := ⟨⟨by decide +kernel, by decide +kernel⟩, List.mem_of_getElem? (i := 26) (by decide +kernel), List.mem_of_getElem? (i := 426) (by decide +kernel), List.mem_of_getElem? (i := 427) (by decide +kernel)⟩
theorem lw_p5 : lw_okq (⟨"TankChain$Tape", "isWord", "(Ljava/lang/String;)Z"⟩, 6) := ⟨⟨by decide +kernel, by decide +kernel⟩, List.mem_of_getElem? (i := 26) (by decide +kernel), List.mem_of_getElem? (i := 431) (by decide +kernel), List.mem_of_getElem? (i := 432) (by decide +kernel)⟩
theorem lw_p6 : lw_okq (⟨"TankChain$Tape", "readFirst", "(LTankChain$Custom;)Z"⟩, 6) := ⟨⟨by decide +kernel, by decide +kernel⟩, List.mem_of_getElem? (i := 26) (by decide +kernel), List.mem_of_getElem? (i := 483) (by decide +kernel), List.mem_of_getElem? (i := 484) (by decide +kernel)⟩
theorem lw_p7 : lw_okq (⟨"TankChain$Tape", "numberHere", "()I"⟩, 6) := ⟨⟨by decide +kernel, by decide +kernel⟩, List.mem_of_getElem? (i := 26) (by decide +kernel), List.mem_of_getElem? (i := 494) (by decide +kernel), List.mem_of_getElem? (i := 495) (by decide +kernel)⟩
theorem lw_p8 : lw_okq (⟨"TankChain", "orderAnew", "()V"⟩, 15) := ⟨⟨by decide +kernel, by decide +kernel⟩, List.mem_of_getElem? (i := 16) (by decide +kernel), List.mem_of_getElem? (i := 506) (by decide +kernel), List.mem_of_getElem? (i := 507) (by decide +kernel)⟩
theorem lw_p9 : lw_okq (⟨"TankChain", "fieldAt", "(I)LTankChain$Field;"⟩, 15) := ⟨⟨by decide +kernel, by decide +kernel⟩, List.mem_of_getElem? (i := 16) (by decide +kernel), List.mem_of_getElem? (i := 510) (by decide +kernel), List.mem_of_getElem? (i := 511) (by decide +kernel)⟩
theorem lw_p10 : lw_okq (⟨"TankChain", "addSilt", "()V"⟩, 15) := ⟨⟨by decide +kernel, by decide +kernel⟩, List.mem_of_getElem? (i := 16) (by decide +kernel), List.mem_of_getElem? (i := 522) (by decide +kernel), List.mem_of_getElem? (i := 523) (by decide +kernel)⟩
theorem lw_p11 : lw_okq (⟨"TankChain$Flow", "sentDown", "(LTankChain$Tank;II)I"⟩, 4) := ⟨⟨by decide +kernel, by decide +kernel⟩, List.mem_of_getElem? (i := 207) (by decide +kernel), List.mem_of_getElem? (i := 542) (by decide +kernel), List.mem_of_getElem? (i := 543) (by decide +kernel)⟩
theorem lw_p12 : lw_okq (⟨"TankChain$Flow", "takenByFields", "(LTankChain$Tank;I)I"⟩, 4) := ⟨⟨by decide +kernel, by decide +kernel⟩, List.mem_of_getElem? (i := 207) (by decide +kernel), List.mem_of_getElem? (i := 546) (by decide +kernel), List.mem_of_getElem? (i := 547) (by decide +kernel)⟩
theorem lw_p13 : lw_okq (⟨"TankChain", "keepTanks", "()V"⟩, 15) := ⟨⟨by decide +kernel, by decide +kernel⟩, List.mem_of_getElem? (i := 16) (by decide +kernel), List.mem_of_getElem? (i := 573) (by decide +kernel), List.mem_of_getElem? (i := 574) (by decide +kernel)⟩
theorem lw_p14 : lw_okq (⟨"TankChain", "keepFields", "()V"⟩, 15) := ⟨⟨by decide +kernel, by decide +kernel⟩, List.mem_of_getElem? (i := 16) (by decide +kernel), List.mem_of_getElem? (i := 578) (by decide +kernel), List.mem_of_getElem? (i := 579) (by decide +kernel)⟩
theorem lw_p15 : lw_okq (⟨"TankChain", "waterTried", "(LTankChain$Tank;LTankChain$Tank;II)I"⟩, 15) := ⟨⟨by decide +kernel, by decide +kernel⟩, List.mem_of_getElem? (i := 16) (by decide +kernel), List.mem_of_getElem? (i := 618) (by decide +kernel), List.mem_of_getElem? (i := 619) (by decide +kernel)⟩
def lw_privs_1 : List (MethodName × Nat) := [(⟨"TankChain", "tankAt", "(I)LTankChain$Tank;"⟩, 15), (⟨"TankChain$Tape", "putByte", "(I)V"⟩, 6), (⟨"TankChain$Tape", "nextToken", "()V"⟩, 6), (⟨"TankChain$Tape", "byteAt", "(I)I"⟩, 6), (⟨"TankChain$Tape", "readStatement", "(LTankChain$Custom;)Z"⟩, 6), (⟨"TankChain$Tape", "isWord", "(Ljava/lang/String;)Z"⟩, 6), (⟨"TankChain$Tape", "readFirst", "(LTankChain$Custom;)Z"⟩, 6), (⟨"TankChain$Tape", "numberHere", "()I"⟩, 6), (⟨"TankChain", "orderAnew", "()V"⟩, 15), (⟨"TankChain", "fieldAt", "(I)LTankChain$Field;"⟩, 15), (⟨"TankChain", "addSilt", "()V"⟩, 15), (⟨"TankChain$Flow", "sentDown", "(LTankChain$Tank;II)I"⟩, 4), (⟨"TankChain$Flow", "takenByFields", "(LTankChain$Tank;I)I"⟩, 4), (⟨"TankChain", "keepTanks", "()V"⟩, 15), (⟨"TankChain", "keepFields", "()V"⟩, 15), (⟨"TankChain", "waterTried", "(LTankChain$Tank;LTankChain$Tank;II)I"⟩, 15)]
theorem lw_r1 : ∀ q ∈ lw_privs_1, lw_okq q := List.forall_mem_cons.mpr ⟨lw_p0, List.forall_mem_cons.mpr ⟨lw_p1, List.forall_mem_cons.mpr ⟨lw_p2, List.forall_mem_cons.mpr ⟨lw_p3, List.forall_mem_cons.mpr ⟨lw_p4, List.forall_mem_cons.mpr ⟨lw_p5, List.forall_mem_cons.mpr ⟨lw_p6, List.forall_mem_cons.mpr ⟨lw_p7, List.forall_mem_cons.mpr ⟨lw_p8, List.forall_mem_cons.mpr ⟨lw_p9, List.forall_mem_cons.mpr ⟨lw_p10, List.forall_mem_cons.mpr ⟨lw_p11, List.forall_mem_cons.mpr ⟨lw_p12, List.forall_mem_cons.mpr ⟨lw_p13, List.forall_mem_cons.mpr ⟨lw_p14, List.forall_mem_cons.mpr ⟨lw_p15, fun _ h => absurd h List.not_mem_nil⟩⟩⟩⟩⟩⟩⟩⟩⟩⟩⟩⟩⟩⟩⟩⟩
theorem lw_p16 : lw_okq (⟨"TankChain", "areasFedBy", "(IIIII)I"⟩, 15) := ⟨⟨by decide +kernel, by decide +kernel⟩, List.mem_of_getElem? (i := 16) (by decide +kernel), List.mem_of_getElem? (i := 631) (by decide +kernel), List.mem_of_getElem? (i := 632) (by decide +kernel)⟩
theorem lw_p17 : lw_okq (⟨"TankChain", "allWater", "()I"⟩, 15) := ⟨⟨by decide +kernel, by decide +kernel⟩, List.mem_of_getElem? (i := 16) (by decide +kernel), List.mem_of_getElem? (i := 646) (by decide +kernel), List.mem_of_getElem? (i := 647) (by decide +kernel)⟩
theorem lw_p18 : lw_okq (⟨"TankChainModel", "isTank", "(I)Z"⟩, 47) := ⟨⟨by decide +kernel, by decide +kernel⟩, List.mem_of_getElem? (i := 653) (by decide +kernel), List.mem_of_getElem? (i := 808) (by decide +kernel), List.mem_of_getElem? (i := 809) (by decide +kernel)⟩
theorem lw_p19 : lw_okq (⟨"TankChainModel", "room", "(IZ)I"⟩, 47) := ⟨⟨by decide +kernel, by decide +kernel⟩, List.mem_of_getElem? (i := 653) (by decide +kernel), List.mem_of_getElem? (i := 819) (by decide +kernel), List.mem_of_getElem? (i := 820) (by decide +kernel)⟩
theorem lw_p20 : lw_okq (⟨"TankChainModel", "four", "(I)V"⟩, 47) := ⟨⟨by decide +kernel, by decide +kernel⟩, List.mem_of_getElem? (i := 653) (by decide +kernel), List.mem_of_getElem? (i := 843) (by decide +kernel), List.mem_of_getElem? (i := 844) (by decide +kernel)⟩
theorem lw_p21 : lw_okq (⟨"TankChainModel", "blanks", "()V"⟩, 47) := ⟨⟨by decide +kernel, by decide +kernel⟩, List.mem_of_getElem? (i := 653) (by decide +kernel), List.mem_of_getElem? (i := 851) (by decide +kernel), List.mem_of_getElem? (i := 852) (by decide +kernel)⟩
theorem lw_p22 : lw_okq (⟨"TankChainModel", "statement", "()Z"⟩, 47) := ⟨⟨by decide +kernel, by decide +kernel⟩, List.mem_of_getElem? (i := 653) (by decide +kernel), List.mem_of_getElem? (i := 855) (by decide +kernel), List.mem_of_getElem? (i := 856) (by decide +kernel)⟩
theorem lw_p23 : lw_okq (⟨"TankChainModel", "takes", "(J)Z"⟩, 47) := ⟨⟨by decide +kernel, by decide +kernel⟩, List.mem_of_getElem? (i := 653) (by decide +kernel), List.mem_of_getElem? (i := 860) (by decide +kernel), List.mem_of_getElem? (i := 861) (by decide +kernel)⟩
theorem lw_p24 : lw_okq (⟨"TankChainModel", "word", "()J"⟩, 47) := ⟨⟨by decide +kernel, by decide +kernel⟩, List.mem_of_getElem? (i := 653) (by decide +kernel), List.mem_of_getElem? (i := 864) (by decide +kernel), List.mem_of_getElem? (i := 865) (by decide +kernel)⟩
theorem lw_p25 : lw_okq (⟨"TankChainModel", "takesNumber", "()Z"⟩, 47) := ⟨⟨by decide +kernel, by decide +kernel⟩, List.mem_of_getElem? (i := 653) (by decide +kernel), List.mem_of_getElem? (i := 871) (by decide +kernel), List.mem_of_getElem? (i := 872) (by decide +kernel)⟩
theorem lw_p26 : lw_okq (⟨"TankChainModel", "ordered", "(I)I"⟩, 47) := ⟨⟨by decide +kernel, by decide +kernel⟩, List.mem_of_getElem? (i := 653) (by decide +kernel), List.mem_of_getElem? (i := 885) (by decide +kernel), List.mem_of_getElem? (i := 886) (by decide +kernel)⟩
theorem lw_p27 : lw_okq (⟨"TankChainModel", "isAhead", "(II)Z"⟩, 47) := ⟨⟨by decide +kernel, by decide +kernel⟩, List.mem_of_getElem? (i := 653) (by decide +kernel), List.mem_of_getElem? (i := 889) (by decide +kernel), List.mem_of_getElem? (i := 890) (by decide +kernel)⟩
theorem lw_p28 : lw_okq (⟨"TankChainModel", "custom", "(II)I"⟩, 47) := ⟨⟨by decide +kernel, by decide +kernel⟩, List.mem_of_getElem? (i := 653) (by decide +kernel), List.mem_of_getElem? (i := 893) (by decide +kernel), List.mem_of_getElem? (i := 894) (by decide +kernel)⟩
theorem lw_p29 : lw_okq (⟨"TankChainModel", "flows", "([I[Z[IIZ)I"⟩, 47) := ⟨⟨by decide +kernel, by decide +kernel⟩, List.mem_of_getElem? (i := 653) (by decide +kernel), List.mem_of_getElem? (i := 904) (by decide +kernel), List.mem_of_getElem? (i := 905) (by decide +kernel)⟩
theorem lw_p30 : lw_okq (⟨"TankChainModel", "gives", "(III)I"⟩, 47) := ⟨⟨by decide +kernel, by decide +kernel⟩, List.mem_of_getElem? (i := 653) (by decide +kernel), List.mem_of_getElem? (i := 908) (by decide +kernel), List.mem_of_getElem? (i := 909) (by decide +kernel)⟩
theorem lw_p31 : lw_okq (⟨"TankChainModel", "isBad", "(II)Z"⟩, 47) := ⟨⟨by decide +kernel, by decide +kernel⟩, List.mem_of_getElem? (i := 653) (by decide +kernel), List.mem_of_getElem? (i := 912) (by decide +kernel), List.mem_of_getElem? (i := 913) (by decide +kernel)⟩
def lw_privs_2 : List (MethodName × Nat) := [(⟨"TankChain", "areasFedBy", "(IIIII)I"⟩, 15), (⟨"TankChain", "allWater", "()I"⟩, 15), (⟨"TankChainModel", "isTank", "(I)Z"⟩, 47), (⟨"TankChainModel", "room", "(IZ)I"⟩, 47), (⟨"TankChainModel", "four", "(I)V"⟩, 47), (⟨"TankChainModel", "blanks", "()V"⟩, 47), (⟨"TankChainModel", "statement", "()Z"⟩, 47), (⟨"TankChainModel", "takes", "(J)Z"⟩, 47), (⟨"TankChainModel", "word", "()J"⟩, 47), (⟨"TankChainModel", "takesNumber", "()Z"⟩, 47), (⟨"TankChainModel", "ordered", "(I)I"⟩, 47), (⟨"TankChainModel", "isAhead", "(II)Z"⟩, 47), (⟨"TankChainModel", "custom", "(II)I"⟩, 47), (⟨"TankChainModel", "flows", "([I[Z[IIZ)I"⟩, 47), (⟨"TankChainModel", "gives", "(III)I"⟩, 47), (⟨"TankChainModel", "isBad", "(II)Z"⟩, 47)]
theorem lw_r2 : ∀ q ∈ lw_privs_2, lw_okq q := List.forall_mem_cons.mpr ⟨lw_p16, List.forall_mem_cons.mpr ⟨lw_p17, List.forall_mem_cons.mpr ⟨lw_p18, List.forall_mem_cons.mpr ⟨lw_p19, List.forall_mem_cons.mpr ⟨lw_p20, List.forall_mem_cons.mpr ⟨lw_p21, List.forall_mem_cons.mpr ⟨lw_p22, List.forall_mem_cons.mpr ⟨lw_p23, List.forall_mem_cons.mpr ⟨lw_p24, List.forall_mem_cons.mpr ⟨lw_p25, List.forall_mem_cons.mpr ⟨lw_p26, List.forall_mem_cons.mpr ⟨lw_p27, List.forall_mem_cons.mpr ⟨lw_p28, List.forall_mem_cons.mpr ⟨lw_p29, List.forall_mem_cons.mpr ⟨lw_p30, List.forall_mem_cons.mpr ⟨lw_p31, fun _ h => absurd h List.not_mem_nil⟩⟩⟩⟩⟩⟩⟩⟩⟩⟩⟩⟩⟩⟩⟩⟩
theorem lw_p32 : lw_okq (⟨"TankChainModel", "openings", "()V"⟩, 47) := ⟨⟨by decide +kernel, by decide +kernel⟩, List.mem_of_getElem? (i := 653) (by decide +kernel), List.mem_of_getElem? (i := 935) (by decide +kernel), List.mem_of_getElem? (i := 936) (by decide +kernel)⟩
theorem lw_p33 : lw_okq (⟨"TankChainModel", "tries", "(II)I"⟩, 47) := ⟨⟨by decide +kernel, by decide +kernel⟩, List.mem_of_getElem? (i := 653) (by decide +kernel), List.mem_of_getElem? (i := 939) (by decide +kernel), List.mem_of_getElem? (i := 940) (by decide +kernel)⟩
def lw_privs_3 : List (MethodName × Nat) := [(⟨"TankChainModel", "openings", "()V"⟩, 47), (⟨"TankChainModel", "tries", "(II)I"⟩, 47)]
theorem lw_r3 : ∀ q ∈ lw_privs_3, lw_okq q := List.forall_mem_cons.mpr ⟨lw_p32, List.forall_mem_cons.mpr ⟨lw_p33, fun _ h => absurd h List.not_mem_nil⟩⟩
def lw_privs : List (MethodName × Nat) := lw_privs_1 ++ (lw_privs_2 ++ (lw_privs_3))
def lw_tbl : List Cond := k2_sels lw_privs ++ tables_1
theorem lw_privs_ok : ∀ q ∈ lw_privs, lw_okq q := by
  show ∀ q ∈ lw_privs_1 ++ (lw_privs_2 ++ (lw_privs_3)), lw_okq q
  exact List.forall_mem_append.mpr ⟨lw_r1, List.forall_mem_append.mpr ⟨lw_r2, lw_r3⟩⟩
end
section
/-! ===== BEGIN words of one list among another's, by their places ===== -/
theorem goodIn_r {big : List Cond} (ws : List Cond) (ps : List Nat) (hp : ws = ps.filterMap (fun i => big[i]?)) (h : ws.all goodWord = true) : GoodIn big ws := by
  intro w hw
  have h1 := List.all_eq_true.mp h w hw
  rw [hp] at hw
  obtain ⟨i, -, hi⟩ := List.mem_filterMap.mp hw
  have hm : w ∈ big := by first | exact List.mem_of_getElem? hi | exact List.getElem?_mem hi
  exact ⟨hm, good_of_word h1⟩
theorem goodIn_app {big a b : List Cond} (ha : GoodIn big a) (hb : GoodIn big b) : GoodIn big (a ++ b) := fun w h => (List.mem_append.mp h).elim (ha w) (hb w)
theorem goodIn_ca {big a b : List Cond} {c : Cond} (ha : GoodIn big (c :: a)) (hb : GoodIn big b) : GoodIn big (c :: (a ++ b)) := fun w h => (List.mem_cons.mp h).elim (fun e => ha w (List.mem_cons.mpr (Or.inl e))) (fun h => (List.mem_append.mp h).elim (fun h => ha w (List.mem_cons.mpr (Or.inr h))) (hb w))
theorem goodIn_sub {big ws : List Cond} (hm : ∀ w ∈ ws, w ∈ big) (h : ws.all goodWord = true) : GoodIn big ws := fun w hw => ⟨hm w hw, good_of_word (List.all_eq_true.mp h w hw)⟩
/-! ===== END ===== -/

/-! ===== BEGIN printed: names, fields, word lists, decode rows ===== -/
def RX0 : String := "TankChain$Custom"
def TX0 : u_T := fun k => match k with
  | 0 => ("TankChain$Custom", "firsts", "[I", true)
  | 1 => ("TankChain$Custom", "firstsThere", "I", false)
  | 2 => ("TankChain$Custom", "near", "I", false)
  | 3 => ("TankChain$Custom", "hold", "I", false)
  | 4 => ("TankChain$Custom", "fair", "Z", false)
  | _ => ("TankChain$Custom", "statements", "I", false)
def tyX0 : Nat → FieldType := fun k => match k with
  | 0 => .array .int
  | 1 => .int
  | 2 => .int
  | 3 => .int
  | 4 => .boolean
  | _ => .int
abbrev wsX00 : List Cond := u_ws RX0 TX0 6
theorem nmX0 : ∀ a, a < 6 → ∀ b, b < 6 → a ≠ b → (TX0 a).2.1 ≠ (TX0 b).2.1 := by decide +kernel
theorem tyX0_ok : ∀ k, k < 6 → parseFieldDescriptor (TX0 k).2.2.1 = some (tyX0 k) := by decide +kernel
abbrev cX0_init : ByteArray := prog_2_method_1_code
def yX0_init : MethodName := ⟨RX0, "<init>", "()V"⟩
abbrev cX0_clear : ByteArray := prog_2_method_2_code
def yX0_clear : MethodName := ⟨RX0, "clear", "()V"⟩
abbrev cX0_becomeAs : ByteArray := prog_2_method_3_code
def yX0_becomeAs : MethodName := ⟨RX0, "becomeAs", "(LTankChain$Custom;)V"⟩
abbrev cX0_addFirst : ByteArray := prog_2_method_4_code
def yX0_addFirst : MethodName := ⟨RX0, "addFirst", "(I)V"⟩
abbrev cX0_isAhead : ByteArray := prog_2_method_5_code
def yX0_isAhead : MethodName := ⟨RX0, "isAhead", "(LTankChain$Field;LTankChain$Field;)Z"⟩
abbrev cX0_rank : ByteArray := prog_2_method_6_code
def yX0_rank : MethodName := ⟨RX0, "rank", "(LTankChain$Field;I)I"⟩
def RX1 : String := "TankChain$Field"
def TX1 : u_T := fun k => match k with
  | 0 => ("TankChain$Field", "number", "I", true)
  | 1 => ("TankChain$Field", "tank", "I", true)
  | 2 => ("TankChain$Field", "far", "I", true)
  | 3 => ("TankChain$Field", "area", "I", true)
  | 4 => ("TankChain$Field", "owner", "I", true)
  | 5 => ("TankChain$Field", "temple", "Z", true)
  | 6 => ("TankChain$Field", "next", "LTankChain$Field;", false)
  | 7 => ("TankChain$Field", "share", "I", false)
  | 8 => ("TankChain$Field", "remainder", "I", false)
  | 9 => ("TankChain$Field", "daysFed", "I", false)
  | 10 => ("TankChain$Field", "gotEver", "I", false)
  | _ => ("TankChain$Field", "gotLately", "I", false)
def tyX1 : Nat → FieldType := fun k => match k with
  | 0 => .int
  | 1 => .int
  | 2 => .int
  | 3 => .int
  | 4 => .int
  | 5 => .boolean
  | 6 => .object "TankChain$Field"
  | 7 => .int
  | 8 => .int
  | 9 => .int
  | 10 => .int
  | _ => .int
abbrev wsX10 : List Cond := u_ws RX1 TX1 12
theorem nmX1 : ∀ a, a < 12 → ∀ b, b < 12 → a ≠ b → (TX1 a).2.1 ≠ (TX1 b).2.1 := by decide +kernel
theorem tyX1_ok : ∀ k, k < 12 → parseFieldDescriptor (TX1 k).2.2.1 = some (tyX1 k) := by decide +kernel
abbrev cX1_init : ByteArray := prog_3_method_1_code
def yX1_init : MethodName := ⟨RX1, "<init>", "(IIIIIZ)V"⟩
abbrev cX1_isFed : ByteArray := prog_3_method_2_code
def yX1_isFed : MethodName := ⟨RX1, "isFed", "()Z"⟩
abbrev cX1_keepShare : ByteArray := prog_3_method_3_code
def yX1_keepShare : MethodName := ⟨RX1, "keepShare", "()V"⟩
def RX2 : String := "TankChain$Flow"
def TX2 : u_T := fun k => match k with
  | 0 => ("TankChain$Flow", "head", "LTankChain$Tank;", true)
  | 1 => ("TankChain$Flow", "custom", "LTankChain$Custom;", true)
  | 2 => ("TankChain$Flow", "sums", "LTankChain$Sums;", true)
  | _ => ("TankChain$Flow", "areasFed", "I", false)
def tyX2 : Nat → FieldType := fun k => match k with
  | 0 => .object "TankChain$Tank"
  | 1 => .object "TankChain$Custom"
  | 2 => .object "TankChain$Sums"
  | _ => .int
abbrev wsX20 : List Cond := u_ws RX2 TX2 4
theorem nmX2 : ∀ a, a < 4 → ∀ b, b < 4 → a ≠ b → (TX2 a).2.1 ≠ (TX2 b).2.1 := by decide +kernel
theorem tyX2_ok : ∀ k, k < 4 → parseFieldDescriptor (TX2 k).2.2.1 = some (tyX2 k) := by decide +kernel
abbrev cX2_init : ByteArray := prog_4_method_1_code
def yX2_init : MethodName := ⟨RX2, "<init>", "(LTankChain$Tank;LTankChain$Custom;)V"⟩
abbrev cX2_startFromNow : ByteArray := prog_4_method_2_code
def yX2_startFromNow : MethodName := ⟨RX2, "startFromNow", "()V"⟩
abbrev cX2_passDay : ByteArray := prog_4_method_3_code
def yX2_passDay : MethodName := ⟨RX2, "passDay", "(I)V"⟩
abbrev cX2_sentDown : ByteArray := prog_4_method_4_code
def yX2_sentDown : MethodName := ⟨RX2, "sentDown", "(LTankChain$Tank;II)I"⟩
abbrev cX2_takenByFields : ByteArray := prog_4_method_5_code
def yX2_takenByFields : MethodName := ⟨RX2, "takenByFields", "(LTankChain$Tank;I)I"⟩
abbrev cX2_areasWithin : ByteArray := prog_4_method_6_code
def yX2_areasWithin : MethodName := ⟨RX2, "areasWithin", "(LTankChain$Tank;I)I"⟩
abbrev cX2_shareInOrder : ByteArray := prog_4_method_7_code
def yX2_shareInOrder : MethodName := ⟨RX2, "shareInOrder", "(LTankChain$Tank;II)V"⟩
abbrev cX2_shareFairly : ByteArray := prog_4_method_8_code
def yX2_shareFairly : MethodName := ⟨RX2, "shareFairly", "(LTankChain$Tank;III)V"⟩
abbrev cX2_giveOneMore : ByteArray := prog_4_method_9_code
def yX2_giveOneMore : MethodName := ⟨RX2, "giveOneMore", "(LTankChain$Tank;)V"⟩
def RX3 : String := "TankChain$Pool"
def TX3 : u_T := fun k => match k with
  | 0 => ("TankChain$Pool", "water", "I", false)
  | 1 => ("TankChain$Pool", "opening", "I", false)
  | 2 => ("TankChain$Pool", "breached", "Z", false)
  | 3 => ("TankChain$Pool", "taken", "I", false)
  | _ => ("TankChain$Pool", "spilt", "I", false)
def tyX3 : Nat → FieldType := fun k => match k with
  | 0 => .int
  | 1 => .int
  | 2 => .boolean
  | 3 => .int
  | _ => .int
abbrev wsX30 : List Cond := u_ws RX3 TX3 5
theorem nmX3 : ∀ a, a < 5 → ∀ b, b < 5 → a ≠ b → (TX3 a).2.1 ≠ (TX3 b).2.1 := by decide +kernel
theorem tyX3_ok : ∀ k, k < 5 → parseFieldDescriptor (TX3 k).2.2.1 = some (tyX3 k) := by decide +kernel
abbrev cX3_init : ByteArray := prog_5_method_1_code
def yX3_init : MethodName := ⟨RX3, "<init>", "()V"⟩
abbrev cX3_becomeAs : ByteArray := prog_5_method_2_code
def yX3_becomeAs : MethodName := ⟨RX3, "becomeAs", "(LTankChain$Pool;)V"⟩
def RX4 : String := "TankChain$Sums"
def TX4 : u_T := fun k => match k with
  | 0 => ("TankChain$Sums", "rained", "I", false)
  | 1 => ("TankChain$Sums", "seeped", "I", false)
  | 2 => ("TankChain$Sums", "kept", "I", false)
  | _ => ("TankChain$Sums", "out", "I", false)
def tyX4 : Nat → FieldType := fun k => match k with
  | 0 => .int
  | 1 => .int
  | 2 => .int
  | _ => .int
abbrev wsX40 : List Cond := u_ws RX4 TX4 4
theorem nmX4 : ∀ a, a < 4 → ∀ b, b < 4 → a ≠ b → (TX4 a).2.1 ≠ (TX4 b).2.1 := by decide +kernel
theorem tyX4_ok : ∀ k, k < 4 → parseFieldDescriptor (TX4 k).2.2.1 = some (tyX4 k) := by decide +kernel
abbrev cX4_init : ByteArray := prog_6_method_1_code
def yX4_init : MethodName := ⟨RX4, "<init>", "()V"⟩
abbrev cX4_clear : ByteArray := prog_6_method_2_code
def yX4_clear : MethodName := ⟨RX4, "clear", "()V"⟩
abbrev cX4_addAll : ByteArray := prog_6_method_3_code
def yX4_addAll : MethodName := ⟨RX4, "addAll", "(LTankChain$Sums;)V"⟩
def RX5 : String := "TankChain$Tank"
def TX5 : u_T := fun k => match k with
  | 0 => ("TankChain$Tank", "number", "I", true)
  | 1 => ("TankChain$Tank", "below", "LTankChain$Tank;", true)
  | 2 => ("TankChain$Tank", "now", "LTankChain$Pool;", true)
  | 3 => ("TankChain$Tank", "after", "LTankChain$Pool;", true)
  | 4 => ("TankChain$Tank", "catches", "I", false)
  | 5 => ("TankChain$Tank", "size", "I", false)
  | 6 => ("TankChain$Tank", "bank", "I", false)
  | 7 => ("TankChain$Tank", "silt", "I", false)
  | 8 => ("TankChain$Tank", "breachedOn", "I", false)
  | _ => ("TankChain$Tank", "firstField", "LTankChain$Field;", false)
def tyX5 : Nat → FieldType := fun k => match k with
  | 0 => .int
  | 1 => .object "TankChain$Tank"
  | 2 => .object "TankChain$Pool"
  | 3 => .object "TankChain$Pool"
  | 4 => .int
  | 5 => .int
  | 6 => .int
  | 7 => .int
  | 8 => .int
  | _ => .object "TankChain$Field"
abbrev wsX50 : List Cond := u_ws RX5 TX5 10
theorem nmX5 : ∀ a, a < 10 → ∀ b, b < 10 → a ≠ b → (TX5 a).2.1 ≠ (TX5 b).2.1 := by decide +kernel
theorem tyX5_ok : ∀ k, k < 10 → parseFieldDescriptor (TX5 k).2.2.1 = some (tyX5 k) := by decide +kernel
abbrev cX5_init : ByteArray := prog_7_method_1_code
def yX5_init : MethodName := ⟨RX5, "<init>", "(ILTankChain$Tank;)V"⟩
abbrev cX5_roomIf : ByteArray := prog_7_method_2_code
def yX5_roomIf : MethodName := ⟨RX5, "roomIf", "(Z)I"⟩
abbrev cX5_isBadYearWith : ByteArray := prog_7_method_3_code
def yX5_isBadYearWith : MethodName := ⟨RX5, "isBadYearWith", "(I)Z"⟩
abbrev cX5_putInOrder : ByteArray := prog_7_method_4_code
def yX5_putInOrder : MethodName := ⟨RX5, "putInOrder", "(LTankChain$Field;LTankChain$Custom;)V"⟩
def RX6 : String := "TankChain$Tape"
def TX6 : u_T := fun k => match k with
  | 0 => ("TankChain$Tape", "bytes", "[B", true)
  | 1 => ("TankChain$Tape", "held", "I", false)
  | 2 => ("TankChain$Tape", "length", "I", false)
  | 3 => ("TankChain$Tape", "kind", "I", false)
  | 4 => ("TankChain$Tape", "begin", "I", false)
  | _ => ("TankChain$Tape", "end", "I", false)
def tyX6 : Nat → FieldType := fun k => match k with
  | 0 => .array .byte
  | 1 => .int
  | 2 => .int
  | 3 => .int
  | 4 => .int
  | _ => .int
abbrev wsX60 : List Cond := u_ws RX6 TX6 6
theorem nmX6 : ∀ a, a < 6 → ∀ b, b < 6 → a ≠ b → (TX6 a).2.1 ≠ (TX6 b).2.1 := by decide +kernel
theorem tyX6_ok : ∀ k, k < 6 → parseFieldDescriptor (TX6 k).2.2.1 = some (tyX6 k) := by decide +kernel
abbrev cX6_init : ByteArray := prog_8_method_1_code
def yX6_init : MethodName := ⟨RX6, "<init>", "()V"⟩
abbrev cX6_putFour : ByteArray := prog_8_method_2_code
def yX6_putFour : MethodName := ⟨RX6, "putFour", "(I)V"⟩
abbrev cX6_putByte : ByteArray := prog_8_method_3_code
def yX6_putByte : MethodName := ⟨RX6, "putByte", "(I)V"⟩
abbrev cX6_faultReading : ByteArray := prog_8_method_4_code
def yX6_faultReading : MethodName := ⟨RX6, "faultReading", "(LTankChain$Custom;I)I"⟩
abbrev cX6_readStatement : ByteArray := prog_8_method_5_code
def yX6_readStatement : MethodName := ⟨RX6, "readStatement", "(LTankChain$Custom;)Z"⟩
abbrev cX6_readFirst : ByteArray := prog_8_method_6_code
def yX6_readFirst : MethodName := ⟨RX6, "readFirst", "(LTankChain$Custom;)Z"⟩
abbrev cX6_isWord : ByteArray := prog_8_method_7_code
def yX6_isWord : MethodName := ⟨RX6, "isWord", "(Ljava/lang/String;)Z"⟩
abbrev cX6_numberHere : ByteArray := prog_8_method_8_code
def yX6_numberHere : MethodName := ⟨RX6, "numberHere", "()I"⟩
abbrev cX6_nextToken : ByteArray := prog_8_method_9_code
def yX6_nextToken : MethodName := ⟨RX6, "nextToken", "()V"⟩
abbrev cX6_byteAt : ByteArray := prog_8_method_10_code
def yX6_byteAt : MethodName := ⟨RX6, "byteAt", "(I)I"⟩
abbrev cX6_isBlank : ByteArray := prog_8_method_11_code
def yX6_isBlank : MethodName := ⟨RX6, "isBlank", "(I)Z"⟩
abbrev cX6_isLetter : ByteArray := prog_8_method_12_code
def yX6_isLetter : MethodName := ⟨RX6, "isLetter", "(I)Z"⟩
abbrev cX6_isDigit : ByteArray := prog_8_method_13_code
def yX6_isDigit : MethodName := ⟨RX6, "isDigit", "(I)Z"⟩
def RX7 : String := "TankChain"
def TX7 : u_T := fun k => match k with
  | 0 => ("TankChain", "tanks", "[LTankChain$Tank;", true)
  | 1 => ("TankChain", "fields", "[LTankChain$Field;", true)
  | 2 => ("TankChain", "tape", "LTankChain$Tape;", true)
  | 3 => ("TankChain", "inForce", "LTankChain$Custom;", true)
  | 4 => ("TankChain", "draft", "LTankChain$Custom;", true)
  | 5 => ("TankChain", "flow", "LTankChain$Flow;", true)
  | 6 => ("TankChain", "ever", "LTankChain$Sums;", true)
  | 7 => ("TankChain", "fieldsThere", "I", false)
  | 8 => ("TankChain", "daysGone", "I", false)
  | 9 => ("TankChain", "lastRain", "I", false)
  | 10 => ("TankChain", "waterTold", "I", false)
  | 11 => ("TankChain", "faultPlace", "I", false)
  | 12 => ("TankChain", "breachDay", "I", false)
  | 13 => ("TankChain", "breachFirst", "I", false)
  | _ => ("TankChain", "breachTanks", "I", false)
def tyX7 : Nat → FieldType := fun k => match k with
  | 0 => .array (.object "TankChain$Tank")
  | 1 => .array (.object "TankChain$Field")
  | 2 => .object "TankChain$Tape"
  | 3 => .object "TankChain$Custom"
  | 4 => .object "TankChain$Custom"
  | 5 => .object "TankChain$Flow"
  | 6 => .object "TankChain$Sums"
  | 7 => .int
  | 8 => .int
  | 9 => .int
  | 10 => .int
  | 11 => .int
  | 12 => .int
  | 13 => .int
  | _ => .int
abbrev wsX70 : List Cond := u_ws RX7 TX7 15
theorem nmX7 : ∀ a, a < 15 → ∀ b, b < 15 → a ≠ b → (TX7 a).2.1 ≠ (TX7 b).2.1 := by decide +kernel
theorem tyX7_ok : ∀ k, k < 15 → parseFieldDescriptor (TX7 k).2.2.1 = some (tyX7 k) := by decide +kernel
abbrev cX7_init : ByteArray := prog_1_method_1_code
def yX7_init : MethodName := ⟨RX7, "<init>", "(I)V"⟩
abbrev cX7_tank : ByteArray := prog_1_method_2_code
def yX7_tank : MethodName := ⟨RX7, "tank", "(IIII)Z"⟩
abbrev cX7_water : ByteArray := prog_1_method_3_code
def yX7_water : MethodName := ⟨RX7, "water", "(II)Z"⟩
abbrev cX7_field : ByteArray := prog_1_method_4_code
def yX7_field : MethodName := ⟨RX7, "field", "(IIIIZ)I"⟩
abbrev cX7_open : ByteArray := prog_1_method_5_code
def yX7_open : MethodName := ⟨RX7, "open", "(II)Z"⟩
abbrev cX7_mend : ByteArray := prog_1_method_6_code
def yX7_mend : MethodName := ⟨RX7, "mend", "(II)Z"⟩
abbrev cX7_dredge : ByteArray := prog_1_method_7_code
def yX7_dredge : MethodName := ⟨RX7, "dredge", "(II)I"⟩
abbrev cX7_feed : ByteArray := prog_1_method_8_code
def yX7_feed : MethodName := ⟨RX7, "feed", "(IIIII)I"⟩
abbrev cX7_custom : ByteArray := prog_1_method_9_code
def yX7_custom : MethodName := ⟨RX7, "custom", "(I)I"⟩
abbrev cX7_fault : ByteArray := prog_1_method_10_code
def yX7_fault : MethodName := ⟨RX7, "fault", "()I"⟩
abbrev cX7_day : ByteArray := prog_1_method_11_code
def yX7_day : MethodName := ⟨RX7, "day", "(I)I"⟩
abbrev cX7_told : ByteArray := prog_1_method_12_code
def yX7_told : MethodName := ⟨RX7, "told", "(II)I"⟩
abbrev cX7_fieldOf : ByteArray := prog_1_method_13_code
def yX7_fieldOf : MethodName := ⟨RX7, "fieldOf", "(II)I"⟩
abbrev cX7_order : ByteArray := prog_1_method_14_code
def yX7_order : MethodName := ⟨RX7, "order", "(II)I"⟩
abbrev cX7_owner : ByteArray := prog_1_method_15_code
def yX7_owner : MethodName := ⟨RX7, "owner", "(I)I"⟩
abbrev cX7_tried : ByteArray := prog_1_method_16_code
def yX7_tried : MethodName := ⟨RX7, "tried", "(III)I"⟩
abbrev cX7_lost : ByteArray := prog_1_method_17_code
def yX7_lost : MethodName := ⟨RX7, "lost", "(IIII)I"⟩
abbrev cX7_most : ByteArray := prog_1_method_18_code
def yX7_most : MethodName := ⟨RX7, "most", "(IIIII)I"⟩
abbrev cX7_breach : ByteArray := prog_1_method_19_code
def yX7_breach : MethodName := ⟨RX7, "breach", "(I)I"⟩
abbrev cX7_count : ByteArray := prog_1_method_20_code
def yX7_count : MethodName := ⟨RX7, "count", "(I)I"⟩
abbrev cX7_isWithin : ByteArray := prog_1_method_21_code
def yX7_isWithin : MethodName := ⟨RX7, "isWithin", "(III)Z"⟩
abbrev cX7_asNumber : ByteArray := prog_1_method_22_code
def yX7_asNumber : MethodName := ⟨RX7, "asNumber", "(Z)I"⟩
abbrev cX7_mayTry : ByteArray := prog_1_method_23_code
def yX7_mayTry : MethodName := ⟨RX7, "mayTry", "(II)Z"⟩
abbrev cX7_tankAt : ByteArray := prog_1_method_24_code
def yX7_tankAt : MethodName := ⟨RX7, "tankAt", "(I)LTankChain$Tank;"⟩
abbrev cX7_fieldAt : ByteArray := prog_1_method_25_code
def yX7_fieldAt : MethodName := ⟨RX7, "fieldAt", "(I)LTankChain$Field;"⟩
abbrev cX7_allWater : ByteArray := prog_1_method_26_code
def yX7_allWater : MethodName := ⟨RX7, "allWater", "()I"⟩
abbrev cX7_orderAnew : ByteArray := prog_1_method_27_code
def yX7_orderAnew : MethodName := ⟨RX7, "orderAnew", "()V"⟩
abbrev cX7_addSilt : ByteArray := prog_1_method_28_code
def yX7_addSilt : MethodName := ⟨RX7, "addSilt", "()V"⟩
abbrev cX7_keepTanks : ByteArray := prog_1_method_29_code
def yX7_keepTanks : MethodName := ⟨RX7, "keepTanks", "()V"⟩
abbrev cX7_keepFields : ByteArray := prog_1_method_30_code
def yX7_keepFields : MethodName := ⟨RX7, "keepFields", "()V"⟩
abbrev cX7_waterTried : ByteArray := prog_1_method_31_code
def yX7_waterTried : MethodName := ⟨RX7, "waterTried", "(LTankChain$Tank;LTankChain$Tank;II)I"⟩
abbrev cX7_areasFedBy : ByteArray := prog_1_method_32_code
def yX7_areasFedBy : MethodName := ⟨RX7, "areasFedBy", "(IIIII)I"⟩
abbrev cX7_openingIn : ByteArray := prog_1_method_33_code
def yX7_openingIn : MethodName := ⟨RX7, "openingIn", "(II)I"⟩
def RX8 : String := "TankChainModel"
def TX8 : u_T := fun k => match k with
  | 0 => ("TankChainModel", "tanks", "I", true)
  | 1 => ("TankChainModel", "day", "I", false)
  | 2 => ("TankChainModel", "rain", "I", false)
  | 3 => ("TankChainModel", "fields", "I", false)
  | 4 => ("TankChainModel", "catches", "[I", true)
  | 5 => ("TankChainModel", "size", "[I", true)
  | 6 => ("TankChainModel", "bank", "[I", true)
  | 7 => ("TankChainModel", "water", "[I", true)
  | 8 => ("TankChainModel", "opening", "[I", true)
  | 9 => ("TankChainModel", "silt", "[I", true)
  | 10 => ("TankChainModel", "taken", "[I", true)
  | 11 => ("TankChainModel", "spilt", "[I", true)
  | 12 => ("TankChainModel", "breachedOn", "[I", true)
  | 13 => ("TankChainModel", "isBreached", "[Z", true)
  | 14 => ("TankChainModel", "fieldTank", "[I", true)
  | 15 => ("TankChainModel", "far", "[I", true)
  | 16 => ("TankChainModel", "area", "[I", true)
  | 17 => ("TankChainModel", "owner", "[I", true)
  | 18 => ("TankChainModel", "daysFed", "[I", true)
  | 19 => ("TankChainModel", "allGot", "[I", true)
  | 20 => ("TankChainModel", "lastGot", "[I", true)
  | 21 => ("TankChainModel", "isTemple", "[Z", true)
  | 22 => ("TankChainModel", "owners", "[I", true)
  | 23 => ("TankChainModel", "out", "I", false)
  | 24 => ("TankChainModel", "seeped", "I", false)
  | 25 => ("TankChainModel", "kept", "I", false)
  | 26 => ("TankChainModel", "rained", "I", false)
  | 27 => ("TankChainModel", "toldMore", "I", false)
  | 28 => ("TankChainModel", "firstBreach", "I", false)
  | 29 => ("TankChainModel", "breaches", "I", false)
  | 30 => ("TankChainModel", "breachDay", "I", false)
  | 31 => ("TankChainModel", "tape", "[B", true)
  | 32 => ("TankChainModel", "text", "[B", true)
  | 33 => ("TankChainModel", "taped", "I", false)
  | 34 => ("TankChainModel", "place", "I", false)
  | 35 => ("TankChainModel", "end", "I", false)
  | 36 => ("TankChainModel", "fault", "I", false)
  | 37 => ("TankChainModel", "told", "[I", true)
  | 38 => ("TankChainModel", "hasCustom", "Z", false)
  | 39 => ("TankChainModel", "wordEnd", "I", false)
  | 40 => ("TankChainModel", "number", "I", false)
  | 41 => ("TankChainModel", "row", "[I", true)
  | 42 => ("TankChainModel", "got", "[I", true)
  | 43 => ("TankChainModel", "hasMore", "[Z", true)
  | 44 => ("TankChainModel", "triedWater", "[I", true)
  | 45 => ("TankChainModel", "triedOpening", "[I", true)
  | _ => ("TankChainModel", "triedBreach", "[Z", true)
def tyX8 : Nat → FieldType := fun k => match k with
  | 0 => .int
  | 1 => .int
  | 2 => .int
  | 3 => .int
  | 4 => .array .int
  | 5 => .array .int
  | 6 => .array .int
  | 7 => .array .int
  | 8 => .array .int
  | 9 => .array .int
  | 10 => .array .int
  | 11 => .array .int
  | 12 => .array .int
  | 13 => .array .boolean
  | 14 => .array .int
  | 15 => .array .int
  | 16 => .array .int
  | 17 => .array .int
  | 18 => .array .int
  | 19 => .array .int
  | 20 => .array .int
  | 21 => .array .boolean
  | 22 => .array .int
  | 23 => .int
  | 24 => .int
  | 25 => .int
  | 26 => .int
  | 27 => .int
  | 28 => .int
  | 29 => .int
  | 30 => .int
  | 31 => .array .byte
  | 32 => .array .byte
  | 33 => .int
  | 34 => .int
  | 35 => .int
  | 36 => .int
  | 37 => .array .int
  | 38 => .boolean
  | 39 => .int
  | 40 => .int
  | 41 => .array .int
  | 42 => .array .int
  | 43 => .array .boolean
  | 44 => .array .int
  | 45 => .array .int
  | _ => .array .boolean
abbrev wsX80 : List Cond := u_ws RX8 TX8 47
theorem nmX8 : ∀ a, a < 47 → ∀ b, b < 47 → a ≠ b → (TX8 a).2.1 ≠ (TX8 b).2.1 := by decide +kernel
theorem tyX8_ok : ∀ k, k < 47 → parseFieldDescriptor (TX8 k).2.2.1 = some (tyX8 k) := by decide +kernel
abbrev cX8_init : ByteArray := prog_10_method_1_code
def yX8_init : MethodName := ⟨RX8, "<init>", "(I)V"⟩
abbrev cX8_isIn : ByteArray := prog_10_method_2_code
def yX8_isIn : MethodName := ⟨RX8, "isIn", "(III)Z"⟩
abbrev cX8_one : ByteArray := prog_10_method_3_code
def yX8_one : MethodName := ⟨RX8, "one", "(Z)I"⟩
abbrev cX8_isTank : ByteArray := prog_10_method_4_code
def yX8_isTank : MethodName := ⟨RX8, "isTank", "(I)Z"⟩
abbrev cX8_tank : ByteArray := prog_10_method_5_code
def yX8_tank : MethodName := ⟨RX8, "tank", "(IIII)Z"⟩
abbrev cX8_room : ByteArray := prog_10_method_6_code
def yX8_room : MethodName := ⟨RX8, "room", "(IZ)I"⟩
abbrev cX8_water : ByteArray := prog_10_method_7_code
def yX8_water : MethodName := ⟨RX8, "water", "(II)Z"⟩
abbrev cX8_field : ByteArray := prog_10_method_8_code
def yX8_field : MethodName := ⟨RX8, "field", "(IIIIZ)I"⟩
abbrev cX8_open : ByteArray := prog_10_method_9_code
def yX8_open : MethodName := ⟨RX8, "open", "(II)Z"⟩
abbrev cX8_mend : ByteArray := prog_10_method_10_code
def yX8_mend : MethodName := ⟨RX8, "mend", "(II)Z"⟩
abbrev cX8_dredge : ByteArray := prog_10_method_11_code
def yX8_dredge : MethodName := ⟨RX8, "dredge", "(II)I"⟩
abbrev cX8_custom : ByteArray := prog_10_method_12_code
def yX8_custom : MethodName := ⟨RX8, "custom", "(II)I"⟩
abbrev cX8_feed : ByteArray := prog_10_method_13_code
def yX8_feed : MethodName := ⟨RX8, "feed", "(IIIII)I"⟩
abbrev cX8_four : ByteArray := prog_10_method_14_code
def yX8_four : MethodName := ⟨RX8, "four", "(I)V"⟩
abbrev cX8_blanks : ByteArray := prog_10_method_15_code
def yX8_blanks : MethodName := ⟨RX8, "blanks", "()V"⟩
abbrev cX8_word : ByteArray := prog_10_method_16_code
def yX8_word : MethodName := ⟨RX8, "word", "()J"⟩
abbrev cX8_takes : ByteArray := prog_10_method_17_code
def yX8_takes : MethodName := ⟨RX8, "takes", "(J)Z"⟩
abbrev cX8_takesNumber : ByteArray := prog_10_method_18_code
def yX8_takesNumber : MethodName := ⟨RX8, "takesNumber", "()Z"⟩
abbrev cX8_statement : ByteArray := prog_10_method_19_code
def yX8_statement : MethodName := ⟨RX8, "statement", "()Z"⟩
abbrev cX8_custom_ : ByteArray := prog_10_method_20_code
def yX8_custom_ : MethodName := ⟨RX8, "custom", "(I)I"⟩
abbrev cX8_fault : ByteArray := prog_10_method_21_code
def yX8_fault : MethodName := ⟨RX8, "fault", "()I"⟩
abbrev cX8_isAhead : ByteArray := prog_10_method_22_code
def yX8_isAhead : MethodName := ⟨RX8, "isAhead", "(II)Z"⟩
abbrev cX8_ordered : ByteArray := prog_10_method_23_code
def yX8_ordered : MethodName := ⟨RX8, "ordered", "(I)I"⟩
abbrev cX8_order : ByteArray := prog_10_method_24_code
def yX8_order : MethodName := ⟨RX8, "order", "(II)I"⟩
abbrev cX8_isBad : ByteArray := prog_10_method_25_code
def yX8_isBad : MethodName := ⟨RX8, "isBad", "(II)Z"⟩
abbrev cX8_gives : ByteArray := prog_10_method_26_code
def yX8_gives : MethodName := ⟨RX8, "gives", "(III)I"⟩
abbrev cX8_flows : ByteArray := prog_10_method_27_code
def yX8_flows : MethodName := ⟨RX8, "flows", "([I[Z[IIZ)I"⟩
abbrev cX8_day : ByteArray := prog_10_method_28_code
def yX8_day : MethodName := ⟨RX8, "day", "(I)I"⟩
abbrev cX8_told : ByteArray := prog_10_method_29_code
def yX8_told : MethodName := ⟨RX8, "told", "(II)I"⟩
abbrev cX8_fieldOf : ByteArray := prog_10_method_30_code
def yX8_fieldOf : MethodName := ⟨RX8, "fieldOf", "(II)I"⟩
abbrev cX8_owner : ByteArray := prog_10_method_31_code
def yX8_owner : MethodName := ⟨RX8, "owner", "(I)I"⟩
abbrev cX8_tries : ByteArray := prog_10_method_32_code
def yX8_tries : MethodName := ⟨RX8, "tries", "(II)I"⟩
abbrev cX8_openings : ByteArray := prog_10_method_33_code
def yX8_openings : MethodName := ⟨RX8, "openings", "()V"⟩
abbrev cX8_isTrial : ByteArray := prog_10_method_34_code
def yX8_isTrial : MethodName := ⟨RX8, "isTrial", "(II)Z"⟩
abbrev cX8_tried : ByteArray := prog_10_method_35_code
def yX8_tried : MethodName := ⟨RX8, "tried", "(III)I"⟩
abbrev cX8_lost : ByteArray := prog_10_method_36_code
def yX8_lost : MethodName := ⟨RX8, "lost", "(IIII)I"⟩
abbrev cX8_most : ByteArray := prog_10_method_37_code
def yX8_most : MethodName := ⟨RX8, "most", "(IIIII)I"⟩
abbrev cX8_breach : ByteArray := prog_10_method_38_code
def yX8_breach : MethodName := ⟨RX8, "breach", "(I)I"⟩
abbrev cX8_count : ByteArray := prog_10_method_39_code
def yX8_count : MethodName := ⟨RX8, "count", "(I)I"⟩
def RJ9 : String := "java/lang/Math"
def TJ9 : u_T := fun k => match k with
  | _ => ("", "", "", false)
def tyJ9 : Nat → FieldType := fun k => match k with
  | _ => .int
abbrev wsJ90 : List Cond := u_ws RJ9 TJ9 0
theorem nmJ9 : ∀ a, a < 0 → ∀ b, b < 0 → a ≠ b → (TJ9 a).2.1 ≠ (TJ9 b).2.1 := by decide +kernel
theorem tyJ9_ok : ∀ k, k < 0 → parseFieldDescriptor (TJ9 k).2.2.1 = some (tyJ9 k) := by decide +kernel
abbrev cJ9_max_7cf53 : ByteArray := prog_11_method_65_code
def yJ9_max_7cf53 : MethodName := ⟨RJ9, "max", "(II)I"⟩
abbrev cJ9_min_7cf53 : ByteArray := prog_11_method_69_code
def yJ9_min_7cf53 : MethodName := ⟨RJ9, "min", "(II)I"⟩
def RJ0 : String := "java/lang/String"
def TJ0 : u_T := fun k => match k with
  | _ => ("", "", "", false)
def tyJ0 : Nat → FieldType := fun k => match k with
  | _ => .int
abbrev wsJ00 : List Cond := u_ws RJ0 TJ0 0
theorem nmJ0 : ∀ a, a < 0 → ∀ b, b < 0 → a ≠ b → (TJ0 a).2.1 ≠ (TJ0 b).2.1 := by decide +kernel
theorem tyJ0_ok : ∀ k, k < 0 → parseFieldDescriptor (TJ0 k).2.2.1 = some (tyJ0 k) := by decide +kernel
abbrev cJ0_length_8abf5 : ByteArray := prog_12_method_54_code
def yJ0_length_8abf5 : MethodName := ⟨RJ0, "length", "()I"⟩
abbrev cJ0_charAt_5068e : ByteArray := prog_12_method_56_code
def yJ0_charAt_5068e : MethodName := ⟨RJ0, "charAt", "(I)C"⟩
abbrev cJ0_coder_7d493 : ByteArray := prog_12_method_152_code
def yJ0_coder_7d493 : MethodName := ⟨RJ0, "coder", "()B"⟩
abbrev cJ0_isLatin1_aae02 : ByteArray := prog_12_method_154_code
def yJ0_isLatin1_aae02 : MethodName := ⟨RJ0, "isLatin1", "()Z"⟩
abbrev cJ0_checkIndex_df160 : ByteArray := prog_12_method_155_code
def yJ0_checkIndex_df160 : MethodName := ⟨RJ0, "checkIndex", "(II)V"⟩
def RJ1 : String := "java/lang/StringLatin1"
def TJ1 : u_T := fun k => match k with
  | _ => ("", "", "", false)
def tyJ1 : Nat → FieldType := fun k => match k with
  | _ => .int
abbrev wsJ10 : List Cond := u_ws RJ1 TJ1 0
theorem nmJ1 : ∀ a, a < 0 → ∀ b, b < 0 → a ≠ b → (TJ1 a).2.1 ≠ (TJ1 b).2.1 := by decide +kernel
theorem tyJ1_ok : ∀ k, k < 0 → parseFieldDescriptor (TJ1 k).2.2.1 = some (tyJ1 k) := by decide +kernel
abbrev cJ1_charAt_3b067 : ByteArray := prog_13_method_2_code
def yJ1_charAt_3b067 : MethodName := ⟨RJ1, "charAt", "([BI)C"⟩
def RJ2 : String := "java/lang/StringUTF16"
def TJ2 : u_T := fun k => match k with
  | _ => ("", "", "", false)
def tyJ2 : Nat → FieldType := fun k => match k with
  | _ => .int
abbrev wsJ20 : List Cond := u_ws RJ2 TJ2 0
theorem nmJ2 : ∀ a, a < 0 → ∀ b, b < 0 → a ≠ b → (TJ2 a).2.1 ≠ (TJ2 b).2.1 := by decide +kernel
theorem tyJ2_ok : ∀ k, k < 0 → parseFieldDescriptor (TJ2 k).2.2.1 = some (tyJ2 k) := by decide +kernel
abbrev cJ2_getChar_3b067 : ByteArray := prog_14_method_5_code
def yJ2_getChar_3b067 : MethodName := ⟨RJ2, "getChar", "([BI)C"⟩
abbrev cJ2_length_9d52b : ByteArray := prog_14_method_6_code
def yJ2_length_9d52b : MethodName := ⟨RJ2, "length", "([B)I"⟩
abbrev cJ2_charAt_3b067 : ByteArray := prog_14_method_83_code
def yJ2_charAt_3b067 : MethodName := ⟨RJ2, "charAt", "([BI)C"⟩
abbrev cJ2_checkIndex_2214a : ByteArray := prog_14_method_91_code
def yJ2_checkIndex_2214a : MethodName := ⟨RJ2, "checkIndex", "(I[B)V"⟩
def RJ3 : String := "jdk/internal/util/Preconditions"
def TJ3 : u_T := fun k => match k with
  | _ => ("", "", "", false)
def tyJ3 : Nat → FieldType := fun k => match k with
  | _ => .int
abbrev wsJ30 : List Cond := u_ws RJ3 TJ3 0
theorem nmJ3 : ∀ a, a < 0 → ∀ b, b < 0 → a ≠ b → (TJ3 a).2.1 ≠ (TJ3 b).2.1 := by decide +kernel
theorem tyJ3_ok : ∀ k, k < 0 → parseFieldDescriptor (TJ3 k).2.2.1 = some (tyJ3 k) := by decide +kernel
abbrev cJ3_checkIndex_8e157 : ByteArray := prog_15_method_11_code
def yJ3_checkIndex_8e157 : MethodName := ⟨RJ3, "checkIndex", "(IILjava/util/function/BiFunction;)I"⟩
def RL : String := "TankChainLaw"
abbrev cL_cell : ByteArray := method_2_code
def yL_cell : MethodName := ⟨RL, "cell", "([II)I"⟩
abbrev cL_law : ByteArray := code
def yL_law : MethodName := ⟨RL, "law", "([I)Z"⟩
def wsL_cell : List Cond := .code yL_cell cL_cell 2 (some .int) :: ([])
def wsL_law_r1 : List Cond := [Cond.classLink RL 7 RX7, Cond.instantiable RX7 15, Cond.initialized RX7, Cond.classLink RL 18 RX8, Cond.instantiable RX8 47, Cond.initialized RX8, Cond.methodLink RL 9 yL_cell, Cond.static yL_cell, Cond.initialized RL, Cond.code yL_cell cL_cell 2 (some .int), Cond.methodLink RL 15 yX7_init, Cond.instanceMethod yX7_init, Cond.code yX7_init cX7_init 5 none, Cond.methodLink RX7 1 objectInit, Cond.instanceMethod objectInit, Cond.code objectInit ⟨#[0xb1]⟩ 1 none, Cond.classLink RX7 9 RX1, Cond.fieldLink RX7 11 "TankChain" "fields" "[LTankChain$Field;", Cond.classLink RX7 15 RX6, Cond.instantiable RX6 6, Cond.initialized RX6, Cond.fieldLink RX7 18 "TankChain" "tape" "LTankChain$Tape;", Cond.classLink RX7 22 RX0, Cond.instantiable RX0 6]
def wsL_law_r2 : List Cond := [Cond.initialized RX0, Cond.fieldLink RX7 25 "TankChain" "inForce" "LTankChain$Custom;", Cond.fieldLink RX7 29 "TankChain" "draft" "LTankChain$Custom;", Cond.classLink RX7 32 RX4, Cond.instantiable RX4 4, Cond.initialized RX4, Cond.fieldLink RX7 35 "TankChain" "ever" "LTankChain$Sums;", Cond.fieldLink RX7 39 "TankChain" "fieldsThere" "I", Cond.fieldLink RX7 43 "TankChain" "daysGone" "I", Cond.fieldLink RX7 46 "TankChain" "lastRain" "I", Cond.fieldLink RX7 49 "TankChain" "waterTold" "I", Cond.fieldLink RX7 52 "TankChain" "faultPlace" "I", Cond.fieldLink RX7 55 "TankChain" "breachDay" "I", Cond.fieldLink RX7 58 "TankChain" "breachFirst" "I", Cond.fieldLink RX7 61 "TankChain" "breachTanks" "I", Cond.methodLink RX7 64 Lib.Math.min.name, Cond.static Lib.Math.min.name, Cond.initialized "java/lang/Math", Cond.code Lib.Math.min.name Lib.Math.min.code 2 (some .int), Cond.methodLink RX7 70 Lib.Math.max.name, Cond.static Lib.Math.max.name, Cond.code Lib.Math.max.name Lib.Math.max.code 2 (some .int), Cond.classLink RX7 73 RX5, Cond.fieldLink RX7 75 "TankChain" "tanks" "[LTankChain$Tank;"]
def wsL_law_r3 : List Cond := [Cond.instantiable RX5 10, Cond.initialized RX5, Cond.classLink RX7 82 RX2, Cond.instantiable RX2 4, Cond.initialized RX2, Cond.fieldLink RX7 87 "TankChain" "flow" "LTankChain$Flow;", Cond.instanceMethod yX6_init, Cond.code yX6_init cX6_init 1 none, Cond.methodLink RX6 3 objectInit, Cond.arrayClass .byte, Cond.fieldLink RX6 9 "TankChain$Tape" "bytes" "[B", Cond.fieldLink RX6 15 "TankChain$Tape" "held" "I", Cond.fieldLink RX6 19 "TankChain$Tape" "length" "I", Cond.fieldLink RX6 22 "TankChain$Tape" "kind" "I", Cond.fieldLink RX6 25 "TankChain$Tape" "begin" "I", Cond.fieldLink RX6 28 "TankChain$Tape" "end" "I", Cond.instanceMethod yX0_init, Cond.code yX0_init cX0_init 1 none, Cond.methodLink RX0 3 objectInit, Cond.arrayClass .int, Cond.fieldLink RX0 9 "TankChain$Custom" "firsts" "[I", Cond.fieldLink RX0 15 "TankChain$Custom" "firstsThere" "I", Cond.fieldLink RX0 19 "TankChain$Custom" "near" "I", Cond.fieldLink RX0 22 "TankChain$Custom" "hold" "I"]
def wsL_law_r4 : List Cond := [Cond.fieldLink RX0 25 "TankChain$Custom" "fair" "Z", Cond.fieldLink RX0 29 "TankChain$Custom" "statements" "I", Cond.instanceMethod yX4_init, Cond.code yX4_init cX4_init 1 none, Cond.methodLink RX4 1 objectInit, Cond.fieldLink RX4 7 "TankChain$Sums" "rained" "I", Cond.fieldLink RX4 13 "TankChain$Sums" "seeped" "I", Cond.fieldLink RX4 16 "TankChain$Sums" "kept" "I", Cond.fieldLink RX4 19 "TankChain$Sums" "out" "I", Cond.methodLink RX7 79 yX5_init, Cond.instanceMethod yX5_init, Cond.code yX5_init cX5_init 3 none, Cond.methodLink RX5 3 objectInit, Cond.classLink RX5 9 RX3, Cond.instantiable RX3 5, Cond.initialized RX3, Cond.fieldLink RX5 12 "TankChain$Tank" "now" "LTankChain$Pool;", Cond.fieldLink RX5 18 "TankChain$Tank" "after" "LTankChain$Pool;", Cond.fieldLink RX5 21 "TankChain$Tank" "catches" "I", Cond.fieldLink RX5 25 "TankChain$Tank" "size" "I", Cond.fieldLink RX5 28 "TankChain$Tank" "bank" "I", Cond.fieldLink RX5 31 "TankChain$Tank" "silt" "I", Cond.fieldLink RX5 34 "TankChain$Tank" "breachedOn" "I", Cond.fieldLink RX5 37 "TankChain$Tank" "firstField" "LTankChain$Field;"]
def wsL_law_r5 : List Cond := [Cond.fieldLink RX5 41 "TankChain$Tank" "number" "I", Cond.fieldLink RX5 44 "TankChain$Tank" "below" "LTankChain$Tank;", Cond.instanceMethod yX3_init, Cond.code yX3_init cX3_init 1 none, Cond.methodLink RX3 1 objectInit, Cond.fieldLink RX3 7 "TankChain$Pool" "water" "I", Cond.fieldLink RX3 13 "TankChain$Pool" "opening" "I", Cond.fieldLink RX3 16 "TankChain$Pool" "breached" "Z", Cond.fieldLink RX3 20 "TankChain$Pool" "taken" "I", Cond.fieldLink RX3 23 "TankChain$Pool" "spilt" "I", Cond.methodLink RX7 84 yX2_init, Cond.instanceMethod yX2_init, Cond.code yX2_init cX2_init 3 none, Cond.methodLink RX2 3 objectInit, Cond.classLink RX2 9 RX4, Cond.fieldLink RX2 12 "TankChain$Flow" "sums" "LTankChain$Sums;", Cond.fieldLink RX2 18 "TankChain$Flow" "areasFed" "I", Cond.fieldLink RX2 22 "TankChain$Flow" "head" "LTankChain$Tank;", Cond.fieldLink RX2 26 "TankChain$Flow" "custom" "LTankChain$Custom;", Cond.methodLink RL 20 yX8_init, Cond.instanceMethod yX8_init, Cond.code yX8_init cX8_init 3 none, Cond.methodLink RX8 1 objectInit, Cond.fieldLink RX8 7 "TankChainModel" "catches" "[I"]
def wsL_law_r6 : List Cond := [Cond.fieldLink RX8 13 "TankChainModel" "size" "[I", Cond.fieldLink RX8 16 "TankChainModel" "bank" "[I", Cond.fieldLink RX8 19 "TankChainModel" "water" "[I", Cond.fieldLink RX8 22 "TankChainModel" "opening" "[I", Cond.fieldLink RX8 25 "TankChainModel" "silt" "[I", Cond.fieldLink RX8 28 "TankChainModel" "taken" "[I", Cond.fieldLink RX8 31 "TankChainModel" "spilt" "[I", Cond.fieldLink RX8 34 "TankChainModel" "breachedOn" "[I", Cond.arrayClass .boolean, Cond.fieldLink RX8 37 "TankChainModel" "isBreached" "[Z", Cond.fieldLink RX8 41 "TankChainModel" "fieldTank" "[I", Cond.fieldLink RX8 44 "TankChainModel" "far" "[I", Cond.fieldLink RX8 47 "TankChainModel" "area" "[I", Cond.fieldLink RX8 50 "TankChainModel" "owner" "[I", Cond.fieldLink RX8 53 "TankChainModel" "daysFed" "[I", Cond.fieldLink RX8 56 "TankChainModel" "allGot" "[I", Cond.fieldLink RX8 59 "TankChainModel" "lastGot" "[I", Cond.fieldLink RX8 62 "TankChainModel" "isTemple" "[Z", Cond.fieldLink RX8 65 "TankChainModel" "owners" "[I", Cond.fieldLink RX8 68 "TankChainModel" "firstBreach" "I", Cond.fieldLink RX8 72 "TankChainModel" "breaches" "I", Cond.fieldLink RX8 75 "TankChainModel" "breachDay" "I", Cond.fieldLink RX8 78 "TankChainModel" "tape" "[B", Cond.fieldLink RX8 82 "TankChainModel" "text" "[B"]
def wsL_law_r7 : List Cond := [Cond.fieldLink RX8 85 "TankChainModel" "fault" "I", Cond.fieldLink RX8 88 "TankChainModel" "told" "[I", Cond.fieldLink RX8 91 "TankChainModel" "row" "[I", Cond.fieldLink RX8 94 "TankChainModel" "got" "[I", Cond.fieldLink RX8 97 "TankChainModel" "hasMore" "[Z", Cond.fieldLink RX8 100 "TankChainModel" "triedWater" "[I", Cond.fieldLink RX8 103 "TankChainModel" "triedOpening" "[I", Cond.fieldLink RX8 106 "TankChainModel" "triedBreach" "[Z", Cond.methodLink RX8 109 Lib.Math.min.name, Cond.methodLink RX8 115 Lib.Math.max.name, Cond.fieldLink RX8 118 "TankChainModel" "tanks" "I", Cond.methodLink RL 21 yX7_tank, Cond.instanceMethod yX7_tank, Cond.selects RX7 yX7_tank yX7_tank, Cond.code yX7_tank cX7_tank 7 (some .boolean), Cond.fieldLink RX7 99 "TankChain$Tank" "catches" "I", Cond.fieldLink RX7 102 "TankChain$Tank" "size" "I", Cond.fieldLink RX7 105 "TankChain$Tank" "bank" "I", Cond.methodLink RX7 91 yX7_tankAt, Cond.instanceMethod yX7_tankAt, Cond.selects RX7 yX7_tankAt yX7_tankAt, Cond.code yX7_tankAt cX7_tankAt 2 (some (.object "TankChain$Tank")), Cond.methodLink RX7 95 yX7_isWithin, Cond.static yX7_isWithin]
def wsL_law_r8 : List Cond := [Cond.code yX7_isWithin cX7_isWithin 3 (some .boolean), Cond.methodLink RL 25 yX8_tank, Cond.instanceMethod yX8_tank, Cond.selects RX8 yX8_tank yX8_tank, Cond.code yX8_tank cX8_tank 5 (some .boolean), Cond.fieldLink RX8 129 "TankChainModel" "day" "I", Cond.methodLink RX8 125 yX8_isTank, Cond.instanceMethod yX8_isTank, Cond.selects RX8 yX8_isTank yX8_isTank, Cond.code yX8_isTank cX8_isTank 2 (some .boolean), Cond.methodLink RX8 121 yX8_isIn, Cond.static yX8_isIn, Cond.code yX8_isIn cX8_isIn 3 (some .boolean), Cond.methodLink RL 26 yX7_water, Cond.instanceMethod yX7_water, Cond.selects RX7 yX7_water yX7_water, Cond.code yX7_water cX7_water 4 (some .boolean), Cond.fieldLink RX7 108 "TankChain$Tank" "now" "LTankChain$Pool;", Cond.fieldLink RX7 112 "TankChain$Pool" "breached" "Z", Cond.fieldLink RX7 122 "TankChain$Pool" "water" "I", Cond.methodLink RX7 118 yX5_roomIf, Cond.instanceMethod yX5_roomIf, Cond.selects RX5 yX5_roomIf yX5_roomIf, Cond.code yX5_roomIf cX5_roomIf 2 (some .int)]
def wsL_law_r9 : List Cond := [Cond.methodLink RL 30 yX8_water, Cond.instanceMethod yX8_water, Cond.selects RX8 yX8_water yX8_water, Cond.code yX8_water cX8_water 3 (some .boolean), Cond.fieldLink RX8 136 "TankChainModel" "toldMore" "I", Cond.methodLink RX8 132 yX8_room, Cond.instanceMethod yX8_room, Cond.selects RX8 yX8_room yX8_room, Cond.code yX8_room cX8_room 3 (some .int), Cond.methodLink RL 31 yX7_field, Cond.instanceMethod yX7_field, Cond.selects RX7 yX7_field yX7_field, Cond.code yX7_field cX7_field 10 (some .int), Cond.instantiable RX1 12, Cond.initialized RX1, Cond.methodLink RX7 125 yX1_init, Cond.instanceMethod yX1_init, Cond.code yX1_init cX1_init 7 none, Cond.methodLink RX1 1 objectInit, Cond.fieldLink RX1 7 "TankChain$Field" "next" "LTankChain$Field;", Cond.fieldLink RX1 13 "TankChain$Field" "share" "I", Cond.fieldLink RX1 17 "TankChain$Field" "remainder" "I", Cond.fieldLink RX1 20 "TankChain$Field" "daysFed" "I", Cond.fieldLink RX1 23 "TankChain$Field" "gotEver" "I"]
def wsL_law_r10 : List Cond := [Cond.fieldLink RX1 26 "TankChain$Field" "gotLately" "I", Cond.fieldLink RX1 29 "TankChain$Field" "number" "I", Cond.fieldLink RX1 32 "TankChain$Field" "tank" "I", Cond.fieldLink RX1 35 "TankChain$Field" "far" "I", Cond.fieldLink RX1 38 "TankChain$Field" "area" "I", Cond.fieldLink RX1 41 "TankChain$Field" "owner" "I", Cond.fieldLink RX1 44 "TankChain$Field" "temple" "Z", Cond.methodLink RX7 128 yX5_putInOrder, Cond.instanceMethod yX5_putInOrder, Cond.selects RX5 yX5_putInOrder yX5_putInOrder, Cond.code yX5_putInOrder cX5_putInOrder 5 none, Cond.fieldLink RX5 54 "TankChain$Field" "next" "LTankChain$Field;", Cond.methodLink RX5 48 yX0_isAhead, Cond.instanceMethod yX0_isAhead, Cond.selects RX0 yX0_isAhead yX0_isAhead, Cond.code yX0_isAhead cX0_isAhead 5 (some .boolean), Cond.fieldLink RX0 43 "TankChain$Field" "number" "I", Cond.methodLink RX0 39 yX0_rank, Cond.static yX0_rank, Cond.code yX0_rank cX0_rank 2 (some .int), Cond.fieldLink RX0 48 "TankChain$Field" "temple" "Z", Cond.fieldLink RX0 51 "TankChain$Field" "area" "I", Cond.fieldLink RX0 54 "TankChain$Field" "far" "I", Cond.methodLink RL 35 yX8_field]
def wsL_law_r11 : List Cond := [Cond.instanceMethod yX8_field, Cond.selects RX8 yX8_field yX8_field, Cond.code yX8_field cX8_field 6 (some .int), Cond.fieldLink RX8 139 "TankChainModel" "fields" "I", Cond.methodLink RL 36 yX7_open, Cond.instanceMethod yX7_open, Cond.selects RX7 yX7_open yX7_open, Cond.code yX7_open cX7_open 4 (some .boolean), Cond.fieldLink RX7 132 "TankChain$Pool" "opening" "I", Cond.methodLink RL 39 yX8_open, Cond.instanceMethod yX8_open, Cond.selects RX8 yX8_open yX8_open, Cond.code yX8_open cX8_open 3 (some .boolean), Cond.methodLink RL 40 yX7_mend, Cond.instanceMethod yX7_mend, Cond.selects RX7 yX7_mend yX7_mend, Cond.code yX7_mend cX7_mend 4 (some .boolean), Cond.methodLink RL 43 yX8_mend, Cond.instanceMethod yX8_mend, Cond.selects RX8 yX8_mend yX8_mend, Cond.code yX8_mend cX8_mend 3 (some .boolean), Cond.methodLink RL 44 yX7_dredge, Cond.instanceMethod yX7_dredge, Cond.selects RX7 yX7_dredge yX7_dredge]
def wsL_law_r12 : List Cond := [Cond.code yX7_dredge cX7_dredge 4 (some .int), Cond.fieldLink RX7 135 "TankChain$Tank" "silt" "I", Cond.methodLink RL 48 yX8_dredge, Cond.instanceMethod yX8_dredge, Cond.selects RX8 yX8_dredge yX8_dredge, Cond.code yX8_dredge cX8_dredge 3 (some .int), Cond.methodLink RL 49 yX7_feed, Cond.instanceMethod yX7_feed, Cond.selects RX7 yX7_feed yX7_feed, Cond.code yX7_feed cX7_feed 6 (some .int), Cond.fieldLink RX7 138 "TankChain$Tape" "held" "I", Cond.methodLink RX7 141 yX6_putFour, Cond.instanceMethod yX6_putFour, Cond.selects RX6 yX6_putFour yX6_putFour, Cond.code yX6_putFour cX6_putFour 2 none, Cond.methodLink RX6 31 yX6_putByte, Cond.instanceMethod yX6_putByte, Cond.selects RX6 yX6_putByte yX6_putByte, Cond.code yX6_putByte cX6_putByte 2 none, Cond.methodLink RL 53 yX8_feed, Cond.instanceMethod yX8_feed, Cond.selects RX8 yX8_feed yX8_feed, Cond.code yX8_feed cX8_feed 6 (some .int), Cond.fieldLink RX8 146 "TankChainModel" "taped" "I"]
def wsL_law_r13 : List Cond := [Cond.methodLink RX8 149 yX8_four, Cond.instanceMethod yX8_four, Cond.selects RX8 yX8_four yX8_four, Cond.code yX8_four cX8_four 3 none, Cond.methodLink RL 54 yX7_custom, Cond.instanceMethod yX7_custom, Cond.selects RX7 yX7_custom yX7_custom, Cond.code yX7_custom cX7_custom 2 (some .int), Cond.fieldLink RX7 156 "TankChain$Custom" "statements" "I", Cond.methodLink RX7 145 yX6_faultReading, Cond.instanceMethod yX6_faultReading, Cond.selects RX6 yX6_faultReading yX6_faultReading, Cond.code yX6_faultReading cX6_faultReading 3 (some .int), Cond.fieldLink RX6 43 "TankChain$Custom" "statements" "I", Cond.methodLink RX6 35 yX0_clear, Cond.instanceMethod yX0_clear, Cond.selects RX0 yX0_clear yX0_clear, Cond.code yX0_clear cX0_clear 1 none, Cond.methodLink RX6 40 yX6_nextToken, Cond.instanceMethod yX6_nextToken, Cond.selects RX6 yX6_nextToken yX6_nextToken, Cond.code yX6_nextToken cX6_nextToken 1 none, Cond.methodLink RX6 87 yX6_byteAt, Cond.instanceMethod yX6_byteAt]
def wsL_law_r14 : List Cond := [Cond.selects RX6 yX6_byteAt yX6_byteAt, Cond.code yX6_byteAt cX6_byteAt 2 (some .int), Cond.methodLink RX6 95 yX6_isBlank, Cond.static yX6_isBlank, Cond.code yX6_isBlank cX6_isBlank 1 (some .boolean), Cond.methodLink RX6 99 yX6_isLetter, Cond.static yX6_isLetter, Cond.code yX6_isLetter cX6_isLetter 1 (some .boolean), Cond.methodLink RX6 102 yX6_isDigit, Cond.static yX6_isDigit, Cond.code yX6_isDigit cX6_isDigit 1 (some .boolean), Cond.methodLink RX6 46 yX6_readStatement, Cond.instanceMethod yX6_readStatement, Cond.selects RX6 yX6_readStatement yX6_readStatement, Cond.code yX6_readStatement cX6_readStatement 3 (some .boolean), Cond.fieldLink RX6 65 "TankChain$Custom" "near" "I", Cond.fieldLink RX6 69 "TankChain$Custom" "hold" "I", Cond.fieldLink RX6 73 "TankChain$Custom" "fair" "Z", Cond.methodLink RX6 52 yX6_isWord, Cond.instanceMethod yX6_isWord, Cond.selects RX6 yX6_isWord yX6_isWord, Cond.code yX6_isWord cX6_isWord 3 (some .boolean), Cond.methodLink RX6 83 yJ0_length_8abf5, Cond.instanceMethod yJ0_length_8abf5]
def wsL_law_r15 : List Cond := [Cond.selects RJ0 yJ0_length_8abf5 yJ0_length_8abf5, Cond.initialized RJ0, Cond.code yJ0_length_8abf5 cJ0_length_8abf5 1 (some .int), Cond.fieldLink RJ0 9 "java/lang/String" "value" "[B", Cond.methodLink RJ0 335 yJ0_coder_7d493, Cond.instanceMethod yJ0_coder_7d493, Cond.selects RJ0 yJ0_coder_7d493 yJ0_coder_7d493, Cond.code yJ0_coder_7d493 cJ0_coder_7d493 1 (some .byte), Cond.fieldLink RJ0 38 "java/lang/String" "COMPACT_STRINGS" "Z", Cond.fieldLink RJ0 15 "java/lang/String" "coder" "B", Cond.methodLink RX6 91 yJ0_charAt_5068e, Cond.instanceMethod yJ0_charAt_5068e, Cond.selects RJ0 yJ0_charAt_5068e yJ0_charAt_5068e, Cond.code yJ0_charAt_5068e cJ0_charAt_5068e 2 (some .char), Cond.methodLink RJ0 492 yJ0_isLatin1_aae02, Cond.instanceMethod yJ0_isLatin1_aae02, Cond.selects RJ0 yJ0_isLatin1_aae02 yJ0_isLatin1_aae02, Cond.code yJ0_isLatin1_aae02 cJ0_isLatin1_aae02 1 (some .boolean), Cond.methodLink RJ0 495 yJ1_charAt_3b067, Cond.static yJ1_charAt_3b067, Cond.initialized RJ1, Cond.code yJ1_charAt_3b067 cJ1_charAt_3b067 2 (some .char), Cond.methodLink RJ1 9 yJ0_checkIndex_df160, Cond.static yJ0_checkIndex_df160]
def wsL_law_r16 : List Cond := [Cond.code yJ0_checkIndex_df160 cJ0_checkIndex_df160 2 none, Cond.fieldLink RJ0 1053 "jdk/internal/util/Preconditions" "SIOOBE_FORMATTER" "Ljava/util/function/BiFunction;", Cond.methodLink RJ0 1059 yJ3_checkIndex_8e157, Cond.static yJ3_checkIndex_8e157, Cond.initialized RJ3, Cond.code yJ3_checkIndex_8e157 cJ3_checkIndex_8e157 3 (some .int), Cond.methodLink RJ0 498 yJ2_charAt_3b067, Cond.static yJ2_charAt_3b067, Cond.initialized RJ2, Cond.code yJ2_charAt_3b067 cJ2_charAt_3b067 2 (some .char), Cond.methodLink RJ2 67 yJ2_checkIndex_2214a, Cond.static yJ2_checkIndex_2214a, Cond.code yJ2_checkIndex_2214a cJ2_checkIndex_2214a 2 none, Cond.methodLink RJ2 48 yJ2_length_9d52b, Cond.static yJ2_length_9d52b, Cond.code yJ2_length_9d52b cJ2_length_9d52b 1 (some .int), Cond.methodLink RJ2 414 yJ0_checkIndex_df160, Cond.methodLink RJ2 71 yJ2_getChar_3b067, Cond.static yJ2_getChar_3b067, Cond.code yJ2_getChar_3b067 cJ2_getChar_3b067 2 (some .char), Cond.fieldLink RJ2 44 "java/lang/StringUTF16" "$assertionsDisabled" "Z", Cond.fieldLink RJ2 59 "java/lang/StringUTF16" "HI_BYTE_SHIFT" "I", Cond.fieldLink RJ2 63 "java/lang/StringUTF16" "LO_BYTE_SHIFT" "I", Cond.methodLink RX6 56 yX6_readFirst]
def wsL_law_r17 : List Cond := [Cond.instanceMethod yX6_readFirst, Cond.selects RX6 yX6_readFirst yX6_readFirst, Cond.code yX6_readFirst cX6_readFirst 2 (some .boolean), Cond.methodLink RX6 78 yX0_addFirst, Cond.instanceMethod yX0_addFirst, Cond.selects RX0 yX0_addFirst yX0_addFirst, Cond.code yX0_addFirst cX0_addFirst 2 none, Cond.methodLink RX6 61 yX6_numberHere, Cond.instanceMethod yX6_numberHere, Cond.selects RX6 yX6_numberHere yX6_numberHere, Cond.code yX6_numberHere cX6_numberHere 3 (some .int), Cond.methodLink RX7 149 yX0_becomeAs, Cond.instanceMethod yX0_becomeAs, Cond.selects RX0 yX0_becomeAs yX0_becomeAs, Cond.code yX0_becomeAs cX0_becomeAs 3 none, Cond.methodLink RX0 32 yX0_clear, Cond.methodLink RX0 35 yX0_addFirst, Cond.methodLink RX7 153 yX7_orderAnew, Cond.instanceMethod yX7_orderAnew, Cond.selects RX7 yX7_orderAnew yX7_orderAnew, Cond.code yX7_orderAnew cX7_orderAnew 4 none, Cond.fieldLink RX7 267 "TankChain$Flow" "head" "LTankChain$Tank;", Cond.fieldLink RX7 225 "TankChain$Tank" "firstField" "LTankChain$Field;", Cond.fieldLink RX7 271 "TankChain$Tank" "below" "LTankChain$Tank;"]
def wsL_law_r18 : List Cond := [Cond.fieldLink RX7 201 "TankChain$Field" "tank" "I", Cond.methodLink RX7 197 yX7_fieldAt, Cond.instanceMethod yX7_fieldAt, Cond.selects RX7 yX7_fieldAt yX7_fieldAt, Cond.code yX7_fieldAt cX7_fieldAt 2 (some (.object "TankChain$Field")), Cond.methodLink RL 58 yX8_custom_, Cond.instanceMethod yX8_custom_, Cond.selects RX8 yX8_custom_ yX8_custom_, Cond.code yX8_custom_ cX8_custom_ 5 (some .int), Cond.fieldLink RX8 156 "TankChainModel" "end" "I", Cond.fieldLink RX8 153 "TankChainModel" "place" "I", Cond.fieldLink RX8 142 "TankChainModel" "hasCustom" "Z", Cond.methodLink RX8 159 yX8_blanks, Cond.instanceMethod yX8_blanks, Cond.selects RX8 yX8_blanks yX8_blanks, Cond.code yX8_blanks cX8_blanks 1 none, Cond.methodLink RX8 192 yX8_statement, Cond.instanceMethod yX8_statement, Cond.selects RX8 yX8_statement yX8_statement, Cond.code yX8_statement cX8_statement 2 (some .boolean), Cond.constantLong RX8 172 (439855772532), Cond.constantLong RX8 178 (127978976603237), Cond.constantLong RX8 180 (495756340332), Cond.constantLong RX8 182 (1852137842)]
def wsL_law_r19 : List Cond := [Cond.fieldLink RX8 169 "TankChainModel" "number" "I", Cond.constantLong RX8 188 (1752132708), Cond.constantLong RX8 190 (1717660018), Cond.methodLink RX8 174 yX8_takes, Cond.instanceMethod yX8_takes, Cond.selects RX8 yX8_takes yX8_takes, Cond.code yX8_takes cX8_takes 3 (some .boolean), Cond.fieldLink RX8 162 "TankChainModel" "wordEnd" "I", Cond.methodLink RX8 165 yX8_word, Cond.instanceMethod yX8_word, Cond.selects RX8 yX8_word yX8_word, Cond.code yX8_word cX8_word 3 (some .long), Cond.methodLink RX8 184 yX8_takesNumber, Cond.instanceMethod yX8_takesNumber, Cond.selects RX8 yX8_takesNumber yX8_takesNumber, Cond.code yX8_takesNumber cX8_takesNumber 2 (some .boolean), Cond.methodLink RL 59 yX7_fault, Cond.instanceMethod yX7_fault, Cond.selects RX7 yX7_fault yX7_fault, Cond.code yX7_fault cX7_fault 1 (some .int), Cond.methodLink RL 63 yX8_fault, Cond.instanceMethod yX8_fault, Cond.selects RX8 yX8_fault yX8_fault, Cond.code yX8_fault cX8_fault 1 (some .int)]
def wsL_law_r20 : List Cond := [Cond.methodLink RL 64 yX7_day, Cond.instanceMethod yX7_day, Cond.selects RX7 yX7_day yX7_day, Cond.code yX7_day cX7_day 3 (some .int), Cond.fieldLink RX7 174 "TankChain$Flow" "sums" "LTankChain$Sums;", Cond.methodLink RX7 159 yX7_addSilt, Cond.instanceMethod yX7_addSilt, Cond.selects RX7 yX7_addSilt yX7_addSilt, Cond.code yX7_addSilt cX7_addSilt 2 none, Cond.methodLink RX7 162 yX2_startFromNow, Cond.instanceMethod yX2_startFromNow, Cond.selects RX2 yX2_startFromNow yX2_startFromNow, Cond.code yX2_startFromNow cX2_startFromNow 2 none, Cond.fieldLink RX2 30 "TankChain$Tank" "after" "LTankChain$Pool;", Cond.fieldLink RX2 36 "TankChain$Tank" "now" "LTankChain$Pool;", Cond.fieldLink RX2 45 "TankChain$Tank" "below" "LTankChain$Tank;", Cond.methodLink RX2 39 yX3_becomeAs, Cond.instanceMethod yX3_becomeAs, Cond.selects RX3 yX3_becomeAs yX3_becomeAs, Cond.code yX3_becomeAs cX3_becomeAs 2 none, Cond.methodLink RX7 165 yX2_passDay, Cond.instanceMethod yX2_passDay, Cond.selects RX2 yX2_passDay yX2_passDay, Cond.code yX2_passDay cX2_passDay 4 none]
def wsL_law_r21 : List Cond := [Cond.fieldLink RX2 51 "TankChain$Tank" "catches" "I", Cond.fieldLink RX2 58 "TankChain$Sums" "out" "I", Cond.methodLink RX2 48 yX4_clear, Cond.instanceMethod yX4_clear, Cond.selects RX4 yX4_clear yX4_clear, Cond.code yX4_clear cX4_clear 1 none, Cond.methodLink RX2 54 yX2_sentDown, Cond.instanceMethod yX2_sentDown, Cond.selects RX2 yX2_sentDown yX2_sentDown, Cond.code yX2_sentDown cX2_sentDown 10 (some .int), Cond.fieldLink RX2 61 "TankChain$Pool" "water" "I", Cond.fieldLink RX2 68 "TankChain$Pool" "breached" "Z", Cond.methodLink RX2 76 Lib.Math.max.name, Cond.fieldLink RX2 82 "TankChain$Tank" "bank" "I", Cond.fieldLink RX2 85 "TankChain$Pool" "taken" "I", Cond.fieldLink RX2 88 "TankChain$Pool" "spilt" "I", Cond.fieldLink RX2 91 "TankChain$Sums" "rained" "I", Cond.fieldLink RX2 94 "TankChain$Sums" "seeped" "I", Cond.fieldLink RX2 97 "TankChain$Sums" "kept" "I", Cond.methodLink RX2 64 yX2_takenByFields, Cond.instanceMethod yX2_takenByFields, Cond.selects RX2 yX2_takenByFields yX2_takenByFields, Cond.code yX2_takenByFields cX2_takenByFields 9 (some .int), Cond.fieldLink RX2 100 "TankChain$Tank" "size" "I"]
def wsL_law_r22 : List Cond := [Cond.fieldLink RX2 103 "TankChain$Custom" "hold" "I", Cond.fieldLink RX2 108 "TankChain$Pool" "opening" "I", Cond.methodLink RX2 111 Lib.Math.min.name, Cond.fieldLink RX2 118 "TankChain$Custom" "near" "I", Cond.fieldLink RX2 124 "TankChain$Custom" "fair" "Z", Cond.fieldLink RX2 135 "TankChain$Tank" "firstField" "LTankChain$Field;", Cond.fieldLink RX2 139 "TankChain$Field" "share" "I", Cond.fieldLink RX2 148 "TankChain$Field" "area" "I", Cond.fieldLink RX2 151 "TankChain$Field" "next" "LTankChain$Field;", Cond.methodLink RX2 114 yX5_isBadYearWith, Cond.instanceMethod yX5_isBadYearWith, Cond.selects RX5 yX5_isBadYearWith yX5_isBadYearWith, Cond.code yX5_isBadYearWith cX5_isBadYearWith 2 (some .boolean), Cond.methodLink RX2 121 yX2_areasWithin, Cond.static yX2_areasWithin, Cond.code yX2_areasWithin cX2_areasWithin 4 (some .int), Cond.fieldLink RX2 154 "TankChain$Field" "far" "I", Cond.methodLink RX2 127 yX2_shareFairly, Cond.static yX2_shareFairly, Cond.code yX2_shareFairly cX2_shareFairly 7 none, Cond.fieldLink RX2 157 "TankChain$Field" "remainder" "I", Cond.methodLink RX2 160 yX2_giveOneMore, Cond.static yX2_giveOneMore, Cond.code yX2_giveOneMore cX2_giveOneMore 4 none]
def wsL_law_r23 : List Cond := [Cond.methodLink RX2 131 yX2_shareInOrder, Cond.static yX2_shareInOrder, Cond.code yX2_shareInOrder cX2_shareInOrder 5 none, Cond.methodLink RX2 144 yX1_isFed, Cond.instanceMethod yX1_isFed, Cond.selects RX1 yX1_isFed yX1_isFed, Cond.code yX1_isFed cX1_isFed 1 (some .boolean), Cond.methodLink RX2 72 yX5_roomIf, Cond.methodLink RX7 168 yX7_keepTanks, Cond.instanceMethod yX7_keepTanks, Cond.selects RX7 yX7_keepTanks yX7_keepTanks, Cond.code yX7_keepTanks cX7_keepTanks 4 none, Cond.fieldLink RX7 274 "TankChain$Tank" "after" "LTankChain$Pool;", Cond.fieldLink RX7 190 "TankChain$Tank" "breachedOn" "I", Cond.fieldLink RX7 277 "TankChain$Tank" "number" "I", Cond.methodLink RX7 278 yX3_becomeAs, Cond.methodLink RX7 171 yX7_keepFields, Cond.instanceMethod yX7_keepFields, Cond.selects RX7 yX7_keepFields yX7_keepFields, Cond.code yX7_keepFields cX7_keepFields 3 none, Cond.methodLink RX7 281 yX1_keepShare, Cond.instanceMethod yX1_keepShare, Cond.selects RX1 yX1_keepShare yX1_keepShare, Cond.code yX1_keepShare cX1_keepShare 1 none]
def wsL_law_r24 : List Cond := [Cond.methodLink RX1 48 yX1_isFed, Cond.methodLink RX7 177 yX4_addAll, Cond.instanceMethod yX4_addAll, Cond.selects RX4 yX4_addAll yX4_addAll, Cond.code yX4_addAll cX4_addAll 2 none, Cond.methodLink RL 67 yX8_day, Cond.instanceMethod yX8_day, Cond.selects RX8 yX8_day yX8_day, Cond.code yX8_day cX8_day 3 (some .int), Cond.fieldLink RX8 229 "TankChainModel" "rain" "I", Cond.methodLink RX8 232 yX8_flows, Cond.instanceMethod yX8_flows, Cond.selects RX8 yX8_flows yX8_flows, Cond.code yX8_flows cX8_flows 16 (some .int), Cond.fieldLink RX8 217 "TankChainModel" "seeped" "I", Cond.fieldLink RX8 220 "TankChainModel" "kept" "I", Cond.fieldLink RX8 223 "TankChainModel" "rained" "I", Cond.fieldLink RX8 226 "TankChainModel" "out" "I", Cond.methodLink RX8 213 yX8_gives, Cond.instanceMethod yX8_gives, Cond.selects RX8 yX8_gives yX8_gives, Cond.code yX8_gives cX8_gives 11 (some .int), Cond.methodLink RX8 195 yX8_custom, Cond.instanceMethod yX8_custom]
def wsL_law_r25 : List Cond := [Cond.selects RX8 yX8_custom yX8_custom, Cond.code yX8_custom cX8_custom 3 (some .int), Cond.methodLink RX8 206 yX8_ordered, Cond.instanceMethod yX8_ordered, Cond.selects RX8 yX8_ordered yX8_ordered, Cond.code yX8_ordered cX8_ordered 5 (some .int), Cond.methodLink RX8 202 yX8_isAhead, Cond.instanceMethod yX8_isAhead, Cond.selects RX8 yX8_isAhead yX8_isAhead, Cond.code yX8_isAhead cX8_isAhead 5 (some .boolean), Cond.methodLink RX8 198 yX8_one, Cond.static yX8_one, Cond.code yX8_one cX8_one 1 (some .int), Cond.methodLink RX8 210 yX8_isBad, Cond.instanceMethod yX8_isBad, Cond.selects RX8 yX8_isBad yX8_isBad, Cond.code yX8_isBad cX8_isBad 3 (some .boolean), Cond.methodLink RL 68 yX7_told, Cond.instanceMethod yX7_told, Cond.selects RX7 yX7_told yX7_told, Cond.code yX7_told cX7_told 4 (some .int), Cond.fieldLink RX7 184 "TankChain$Pool" "taken" "I", Cond.fieldLink RX7 187 "TankChain$Pool" "spilt" "I", Cond.methodLink RX7 181 yX7_asNumber]
def wsL_law_r26 : List Cond := [Cond.static yX7_asNumber, Cond.code yX7_asNumber cX7_asNumber 1 (some .int), Cond.methodLink RX7 193 yX5_isBadYearWith, Cond.methodLink RL 71 yX8_told, Cond.instanceMethod yX8_told, Cond.selects RX8 yX8_told yX8_told, Cond.code yX8_told cX8_told 3 (some .int), Cond.methodLink RL 72 yX7_fieldOf, Cond.instanceMethod yX7_fieldOf, Cond.selects RX7 yX7_fieldOf yX7_fieldOf, Cond.code yX7_fieldOf cX7_fieldOf 4 (some .int), Cond.fieldLink RX7 204 "TankChain$Field" "far" "I", Cond.fieldLink RX7 207 "TankChain$Field" "area" "I", Cond.fieldLink RX7 210 "TankChain$Field" "owner" "I", Cond.fieldLink RX7 213 "TankChain$Field" "temple" "Z", Cond.fieldLink RX7 216 "TankChain$Field" "daysFed" "I", Cond.fieldLink RX7 219 "TankChain$Field" "gotEver" "I", Cond.fieldLink RX7 222 "TankChain$Field" "gotLately" "I", Cond.methodLink RL 75 yX8_fieldOf, Cond.instanceMethod yX8_fieldOf, Cond.selects RX8 yX8_fieldOf yX8_fieldOf, Cond.code yX8_fieldOf cX8_fieldOf 3 (some .int), Cond.methodLink RL 76 yX7_order, Cond.instanceMethod yX7_order]
def wsL_law_r27 : List Cond := [Cond.selects RX7 yX7_order yX7_order, Cond.code yX7_order cX7_order 6 (some .int), Cond.fieldLink RX7 229 "TankChain$Field" "number" "I", Cond.fieldLink RX7 232 "TankChain$Field" "next" "LTankChain$Field;", Cond.methodLink RL 79 yX8_order, Cond.instanceMethod yX8_order, Cond.selects RX8 yX8_order yX8_order, Cond.code yX8_order cX8_order 4 (some .int), Cond.methodLink RL 80 yX7_owner, Cond.instanceMethod yX7_owner, Cond.selects RX7 yX7_owner yX7_owner, Cond.code yX7_owner cX7_owner 5 (some .int), Cond.methodLink RL 83 yX8_owner, Cond.instanceMethod yX8_owner, Cond.selects RX8 yX8_owner yX8_owner, Cond.code yX8_owner cX8_owner 2 (some .int), Cond.methodLink RL 84 yX7_tried, Cond.instanceMethod yX7_tried, Cond.selects RX7 yX7_tried yX7_tried, Cond.code yX7_tried cX7_tried 5 (some .int), Cond.methodLink RX7 235 yX7_mayTry, Cond.static yX7_mayTry, Cond.code yX7_mayTry cX7_mayTry 2 (some .boolean), Cond.methodLink RX7 239 yX7_waterTried]
def wsL_law_r28 : List Cond := [Cond.instanceMethod yX7_waterTried, Cond.selects RX7 yX7_waterTried yX7_waterTried, Cond.code yX7_waterTried cX7_waterTried 6 (some .int), Cond.methodLink RL 88 yX8_tried, Cond.instanceMethod yX8_tried, Cond.selects RX8 yX8_tried yX8_tried, Cond.code yX8_tried cX8_tried 4 (some .int), Cond.methodLink RX8 236 yX8_isTrial, Cond.static yX8_isTrial, Cond.code yX8_isTrial cX8_isTrial 2 (some .boolean), Cond.methodLink RX8 239 yX8_openings, Cond.instanceMethod yX8_openings, Cond.selects RX8 yX8_openings yX8_openings, Cond.code yX8_openings cX8_openings 2 none, Cond.methodLink RX8 242 yX8_tries, Cond.instanceMethod yX8_tries, Cond.selects RX8 yX8_tries yX8_tries, Cond.code yX8_tries cX8_tries 5 (some .int), Cond.methodLink RL 89 yX7_lost, Cond.instanceMethod yX7_lost, Cond.selects RX7 yX7_lost yX7_lost, Cond.code yX7_lost cX7_lost 7 (some .int), Cond.constant RX7 243 (-100000), Cond.methodLink RL 93 yX8_lost]
def wsL_law_r29 : List Cond := [Cond.instanceMethod yX8_lost, Cond.selects RX8 yX8_lost yX8_lost, Cond.code yX8_lost cX8_lost 6 (some .int), Cond.constant RX8 245 (-100000), Cond.methodLink RL 94 yX7_most, Cond.instanceMethod yX7_most, Cond.selects RX7 yX7_most yX7_most, Cond.code yX7_most cX7_most 12 (some .int), Cond.methodLink RX7 244 yX7_areasFedBy, Cond.instanceMethod yX7_areasFedBy, Cond.selects RX7 yX7_areasFedBy yX7_areasFedBy, Cond.code yX7_areasFedBy cX7_areasFedBy 8 (some .int), Cond.fieldLink RX7 284 "TankChain$Flow" "areasFed" "I", Cond.methodLink RX7 248 yX7_openingIn, Cond.static yX7_openingIn, Cond.code yX7_openingIn cX7_openingIn 4 (some .int), Cond.methodLink RL 97 yX8_most, Cond.instanceMethod yX8_most, Cond.selects RX8 yX8_most yX8_most, Cond.code yX8_most cX8_most 12 (some .int), Cond.methodLink RL 98 yX7_breach, Cond.instanceMethod yX7_breach, Cond.selects RX7 yX7_breach yX7_breach, Cond.code yX7_breach cX7_breach 2 (some .int)]
def wsL_law_r30 : List Cond := [Cond.methodLink RL 101 yX8_breach, Cond.instanceMethod yX8_breach, Cond.selects RX8 yX8_breach yX8_breach, Cond.code yX8_breach cX8_breach 2 (some .int), Cond.methodLink RL 102 yX7_count, Cond.instanceMethod yX7_count, Cond.selects RX7 yX7_count yX7_count, Cond.code yX7_count cX7_count 2 (some .int), Cond.fieldLink RX7 255 "TankChain$Sums" "out" "I", Cond.fieldLink RX7 258 "TankChain$Sums" "seeped" "I", Cond.fieldLink RX7 261 "TankChain$Sums" "kept" "I", Cond.fieldLink RX7 264 "TankChain$Sums" "rained" "I", Cond.methodLink RX7 251 yX7_allWater, Cond.instanceMethod yX7_allWater, Cond.selects RX7 yX7_allWater yX7_allWater, Cond.code yX7_allWater cX7_allWater 3 (some .int), Cond.methodLink RL 105 yX8_count, Cond.instanceMethod yX8_count, Cond.selects RX8 yX8_count yX8_count, Cond.code yX8_count cX8_count 4 (some .int)]
def wsL_law : List Cond := (wsL_law_r1 ++ (wsL_law_r2 ++ (wsL_law_r3 ++ (wsL_law_r4 ++ (wsL_law_r5 ++ (wsL_law_r6 ++ (wsL_law_r7 ++ (wsL_law_r8 ++ (wsL_law_r9 ++ (wsL_law_r10 ++ (wsL_law_r11 ++ (wsL_law_r12 ++ (wsL_law_r13 ++ (wsL_law_r14 ++ (wsL_law_r15 ++ (wsL_law_r16 ++ (wsL_law_r17 ++ (wsL_law_r18 ++ (wsL_law_r19 ++ (wsL_law_r20 ++ (wsL_law_r21 ++ (wsL_law_r22 ++ (wsL_law_r23 ++ (wsL_law_r24 ++ (wsL_law_r25 ++ (wsL_law_r26 ++ (wsL_law_r27 ++ (wsL_law_r28 ++ (wsL_law_r29 ++ wsL_law_r30))))))))))))))))))))))))))))) ++ wsX70 ++ wsX80 ++ wsX60 ++ wsX00 ++ wsX40 ++ wsX50 ++ wsX20 ++ wsX30 ++ wsX10 ++ ([] : List Cond)
set_option maxRecDepth 20000 in
theorem inlX0 : ∀ w ∈ wsX00, w ∈ wsL_law := fun _ h => List.mem_append_left _ (List.mem_append_left _ (List.mem_append_left _ (List.mem_append_left _ (List.mem_append_left _ (List.mem_append_left _ (List.mem_append_right _ h))))))
theorem inlX1 : ∀ w ∈ wsX10, w ∈ wsL_law := fun _ h => List.mem_append_left _ (List.mem_append_right _ h)
theorem inlX2 : ∀ w ∈ wsX20, w ∈ wsL_law := fun _ h => List.mem_append_left _ (List.mem_append_left _ (List.mem_append_left _ (List.mem_append_right _ h)))
theorem inlX3 : ∀ w ∈ wsX30, w ∈ wsL_law := fun _ h => List.mem_append_left _ (List.mem_append_left _ (List.mem_append_right _ h))
theorem inlX4 : ∀ w ∈ wsX40, w ∈ wsL_law := fun _ h => List.mem_append_left _ (List.mem_append_left _ (List.mem_append_left _ (List.mem_append_left _ (List.mem_append_left _ (List.mem_append_right _ h)))))
theorem inlX5 : ∀ w ∈ wsX50, w ∈ wsL_law := fun _ h => List.mem_append_left _ (List.mem_append_left _ (List.mem_append_left _ (List.mem_append_left _ (List.mem_append_right _ h))))
theorem inlX6 : ∀ w ∈ wsX60, w ∈ wsL_law := fun _ h => List.mem_append_left _ (List.mem_append_left _ (List.mem_append_left _ (List.mem_append_left _ (List.mem_append_left _ (List.mem_append_left _ (List.mem_append_left _ (List.mem_append_right _ h)))))))
theorem inlX7 : ∀ w ∈ wsX70, w ∈ wsL_law := fun _ h => List.mem_append_left _ (List.mem_append_left _ (List.mem_append_left _ (List.mem_append_left _ (List.mem_append_left _ (List.mem_append_left _ (List.mem_append_left _ (List.mem_append_left _ (List.mem_append_left _ (List.mem_append_right _ h)))))))))
theorem inlX8 : ∀ w ∈ wsX80, w ∈ wsL_law := fun _ h => List.mem_append_left _ (List.mem_append_left _ (List.mem_append_left _ (List.mem_append_left _ (List.mem_append_left _ (List.mem_append_left _ (List.mem_append_left _ (List.mem_append_left _ (List.mem_append_right _ h))))))))
theorem inJ9 : ∀ w ∈ wsJ90, w ∈ lw_tbl := by decide +kernel
theorem inJ0 : ∀ w ∈ wsJ00, w ∈ lw_tbl := by decide +kernel
theorem inJ1 : ∀ w ∈ wsJ10, w ∈ lw_tbl := by decide +kernel
theorem inJ2 : ∀ w ∈ wsJ20, w ∈ lw_tbl := by decide +kernel
theorem inJ3 : ∀ w ∈ wsJ30, w ∈ lw_tbl := by decide +kernel
abbrev vwCl : List vw_C := [(RX0, TX0, 6), (RX1, TX1, 12), (RX2, TX2, 4), (RX3, TX3, 5), (RX4, TX4, 4), (RX5, TX5, 10), (RX6, TX6, 6), (RX7, TX7, 15), (RX8, TX8, 47)]
end
section
theorem dX0_init_0 : decode cX0_init 0 = .ok (.aload_n 0, 1) := by decide +kernel
theorem dX0_init_1 : decode cX0_init 1 = .ok (.invokespecial 3, 3) := by decide +kernel
theorem dX0_init_4 : decode cX0_init 4 = .ok (.aload_n 0, 1) := by decide +kernel
theorem dX0_init_5 : decode cX0_init 5 = .ok (.bipush 10, 2) := by decide +kernel
theorem dX0_init_7 : decode cX0_init 7 = .ok (.newarray .int, 2) := by decide +kernel
theorem dX0_init_9 : decode cX0_init 9 = .ok (.putfield 9, 3) := by decide +kernel
theorem dX0_init_12 : decode cX0_init 12 = .ok (.aload_n 0, 1) := by decide +kernel
theorem dX0_init_13 : decode cX0_init 13 = .ok (.iconst 0, 1) := by decide +kernel
theorem dX0_init_14 : decode cX0_init 14 = .ok (.putfield 15, 3) := by decide +kernel
theorem dX0_init_17 : decode cX0_init 17 = .ok (.aload_n 0, 1) := by decide +kernel
theorem dX0_init_18 : decode cX0_init 18 = .ok (.bipush 9, 2) := by decide +kernel
theorem dX0_init_20 : decode cX0_init 20 = .ok (.putfield 19, 3) := by decide +kernel
theorem dX0_init_23 : decode cX0_init 23 = .ok (.aload_n 0, 1) := by decide +kernel
theorem dX0_init_24 : decode cX0_init 24 = .ok (.iconst 0, 1) := by decide +kernel
theorem dX0_init_25 : decode cX0_init 25 = .ok (.putfield 22, 3) := by decide +kernel
theorem dX0_init_28 : decode cX0_init 28 = .ok (.aload_n 0, 1) := by decide +kernel
theorem dX0_init_29 : decode cX0_init 29 = .ok (.iconst 0, 1) := by decide +kernel
theorem dX0_init_30 : decode cX0_init 30 = .ok (.putfield 25, 3) := by decide +kernel
theorem dX0_init_33 : decode cX0_init 33 = .ok (.aload_n 0, 1) := by decide +kernel
theorem dX0_init_34 : decode cX0_init 34 = .ok (.iconst 0, 1) := by decide +kernel
theorem dX0_init_35 : decode cX0_init 35 = .ok (.putfield 29, 3) := by decide +kernel
theorem dX0_init_38 : decode cX0_init 38 = .ok (.return_, 1) := by decide +kernel
theorem dX0_clear_0 : decode cX0_clear 0 = .ok (.aload_n 0, 1) := by decide +kernel
theorem dX0_clear_1 : decode cX0_clear 1 = .ok (.iconst 0, 1) := by decide +kernel
theorem dX0_clear_2 : decode cX0_clear 2 = .ok (.putfield 15, 3) := by decide +kernel
theorem dX0_clear_5 : decode cX0_clear 5 = .ok (.aload_n 0, 1) := by decide +kernel
theorem dX0_clear_6 : decode cX0_clear 6 = .ok (.bipush 9, 2) := by decide +kernel
theorem dX0_clear_8 : decode cX0_clear 8 = .ok (.putfield 19, 3) := by decide +kernel
theorem dX0_clear_11 : decode cX0_clear 11 = .ok (.aload_n 0, 1) := by decide +kernel
theorem dX0_clear_12 : decode cX0_clear 12 = .ok (.iconst 0, 1) := by decide +kernel
theorem dX0_clear_13 : decode cX0_clear 13 = .ok (.putfield 22, 3) := by decide +kernel
theorem dX0_clear_16 : decode cX0_clear 16 = .ok (.aload_n 0, 1) := by decide +kernel
theorem dX0_clear_17 : decode cX0_clear 17 = .ok (.iconst 0, 1) := by decide +kernel
theorem dX0_clear_18 : decode cX0_clear 18 = .ok (.putfield 25, 3) := by decide +kernel
theorem dX0_clear_21 : decode cX0_clear 21 = .ok (.aload_n 0, 1) := by decide +kernel
theorem dX0_clear_22 : decode cX0_clear 22 = .ok (.iconst 0, 1) := by decide +kernel
theorem dX0_clear_23 : decode cX0_clear 23 = .ok (.putfield 29, 3) := by decide +kernel
theorem dX0_clear_26 : decode cX0_clear 26 = .ok (.return_, 1) := by decide +kernel
theorem dX0_becomeAs_0 : decode cX0_becomeAs 0 = .ok (.aload_n 0, 1) := by decide +kernel
theorem dX0_becomeAs_1 : decode cX0_becomeAs 1 = .ok (.invokevirtual 32, 3) := by decide +kernel
theorem dX0_becomeAs_4 : decode cX0_becomeAs 4 = .ok (.iconst 0, 1) := by decide +kernel
theorem dX0_becomeAs_5 : decode cX0_becomeAs 5 = .ok (.istore_n 2, 1) := by decide +kernel
theorem dX0_becomeAs_6 : decode cX0_becomeAs 6 = .ok (.iload_n 2, 1) := by decide +kernel
theorem dX0_becomeAs_7 : decode cX0_becomeAs 7 = .ok (.aload_n 1, 1) := by decide +kernel
theorem dX0_becomeAs_8 : decode cX0_becomeAs 8 = .ok (.getfield 15, 3) := by decide +kernel
theorem dX0_becomeAs_11 : decode cX0_becomeAs 11 = .ok (.if_icmp .ge 28, 3) := by decide +kernel
theorem dX0_becomeAs_14 : decode cX0_becomeAs 14 = .ok (.iload_n 2, 1) := by decide +kernel
theorem dX0_becomeAs_15 : decode cX0_becomeAs 15 = .ok (.aload_n 1, 1) := by decide +kernel
theorem dX0_becomeAs_16 : decode cX0_becomeAs 16 = .ok (.getfield 9, 3) := by decide +kernel
theorem dX0_becomeAs_19 : decode cX0_becomeAs 19 = .ok (.arraylength, 1) := by decide +kernel
theorem dX0_becomeAs_20 : decode cX0_becomeAs 20 = .ok (.if_icmp .ge 19, 3) := by decide +kernel
theorem dX0_becomeAs_23 : decode cX0_becomeAs 23 = .ok (.aload_n 0, 1) := by decide +kernel
theorem dX0_becomeAs_24 : decode cX0_becomeAs 24 = .ok (.aload_n 1, 1) := by decide +kernel
theorem dX0_becomeAs_25 : decode cX0_becomeAs 25 = .ok (.getfield 9, 3) := by decide +kernel
theorem dX0_becomeAs_28 : decode cX0_becomeAs 28 = .ok (.iload_n 2, 1) := by decide +kernel
theorem dX0_becomeAs_29 : decode cX0_becomeAs 29 = .ok (.iaload, 1) := by decide +kernel
theorem dX0_becomeAs_30 : decode cX0_becomeAs 30 = .ok (.invokevirtual 35, 3) := by decide +kernel
theorem dX0_becomeAs_33 : decode cX0_becomeAs 33 = .ok (.iinc 2 1, 3) := by decide +kernel
theorem dX0_becomeAs_36 : decode cX0_becomeAs 36 = .ok (.goto (-30), 3) := by decide +kernel
theorem dX0_becomeAs_39 : decode cX0_becomeAs 39 = .ok (.aload_n 0, 1) := by decide +kernel
theorem dX0_becomeAs_40 : decode cX0_becomeAs 40 = .ok (.aload_n 1, 1) := by decide +kernel
theorem dX0_becomeAs_41 : decode cX0_becomeAs 41 = .ok (.getfield 19, 3) := by decide +kernel
theorem dX0_becomeAs_44 : decode cX0_becomeAs 44 = .ok (.putfield 19, 3) := by decide +kernel
theorem dX0_becomeAs_47 : decode cX0_becomeAs 47 = .ok (.aload_n 0, 1) := by decide +kernel
theorem dX0_becomeAs_48 : decode cX0_becomeAs 48 = .ok (.aload_n 1, 1) := by decide +kernel
theorem dX0_becomeAs_49 : decode cX0_becomeAs 49 = .ok (.getfield 22, 3) := by decide +kernel
theorem dX0_becomeAs_52 : decode cX0_becomeAs 52 = .ok (.putfield 22, 3) := by decide +kernel
theorem dX0_becomeAs_55 : decode cX0_becomeAs 55 = .ok (.aload_n 0, 1) := by decide +kernel
theorem dX0_becomeAs_56 : decode cX0_becomeAs 56 = .ok (.aload_n 1, 1) := by decide +kernel
theorem dX0_becomeAs_57 : decode cX0_becomeAs 57 = .ok (.getfield 25, 3) := by decide +kernel
theorem dX0_becomeAs_60 : decode cX0_becomeAs 60 = .ok (.putfield 25, 3) := by decide +kernel
theorem dX0_becomeAs_63 : decode cX0_becomeAs 63 = .ok (.aload_n 0, 1) := by decide +kernel
theorem dX0_becomeAs_64 : decode cX0_becomeAs 64 = .ok (.aload_n 1, 1) := by decide +kernel
theorem dX0_becomeAs_65 : decode cX0_becomeAs 65 = .ok (.getfield 29, 3) := by decide +kernel
theorem dX0_becomeAs_68 : decode cX0_becomeAs 68 = .ok (.putfield 29, 3) := by decide +kernel
theorem dX0_becomeAs_71 : decode cX0_becomeAs 71 = .ok (.return_, 1) := by decide +kernel
theorem dX0_addFirst_0 : decode cX0_addFirst 0 = .ok (.aload_n 0, 1) := by decide +kernel
theorem dX0_addFirst_1 : decode cX0_addFirst 1 = .ok (.getfield 15, 3) := by decide +kernel
theorem dX0_addFirst_4 : decode cX0_addFirst 4 = .ok (.aload_n 0, 1) := by decide +kernel
theorem dX0_addFirst_5 : decode cX0_addFirst 5 = .ok (.getfield 9, 3) := by decide +kernel
theorem dX0_addFirst_8 : decode cX0_addFirst 8 = .ok (.arraylength, 1) := by decide +kernel
theorem dX0_addFirst_9 : decode cX0_addFirst 9 = .ok (.if_icmp .ge 23, 3) := by decide +kernel
theorem dX0_addFirst_12 : decode cX0_addFirst 12 = .ok (.aload_n 0, 1) := by decide +kernel
theorem dX0_addFirst_13 : decode cX0_addFirst 13 = .ok (.getfield 9, 3) := by decide +kernel
theorem dX0_addFirst_16 : decode cX0_addFirst 16 = .ok (.aload_n 0, 1) := by decide +kernel
theorem dX0_addFirst_17 : decode cX0_addFirst 17 = .ok (.getfield 15, 3) := by decide +kernel
theorem dX0_addFirst_20 : decode cX0_addFirst 20 = .ok (.iload_n 1, 1) := by decide +kernel
theorem dX0_addFirst_21 : decode cX0_addFirst 21 = .ok (.iastore, 1) := by decide +kernel
theorem dX0_addFirst_22 : decode cX0_addFirst 22 = .ok (.aload_n 0, 1) := by decide +kernel
theorem dX0_addFirst_23 : decode cX0_addFirst 23 = .ok (.dup, 1) := by decide +kernel
theorem dX0_addFirst_24 : decode cX0_addFirst 24 = .ok (.getfield 15, 3) := by decide +kernel
theorem dX0_addFirst_27 : decode cX0_addFirst 27 = .ok (.iconst 1, 1) := by decide +kernel
theorem dX0_addFirst_28 : decode cX0_addFirst 28 = .ok (.iadd, 1) := by decide +kernel
theorem dX0_addFirst_29 : decode cX0_addFirst 29 = .ok (.putfield 15, 3) := by decide +kernel
theorem dX0_addFirst_32 : decode cX0_addFirst 32 = .ok (.return_, 1) := by decide +kernel
theorem dX0_isAhead_0 : decode cX0_isAhead 0 = .ok (.iconst 0, 1) := by decide +kernel
theorem dX0_isAhead_1 : decode cX0_isAhead 1 = .ok (.istore_n 3, 1) := by decide +kernel
theorem dX0_isAhead_2 : decode cX0_isAhead 2 = .ok (.iload_n 3, 1) := by decide +kernel
theorem dX0_isAhead_3 : decode cX0_isAhead 3 = .ok (.aload_n 0, 1) := by decide +kernel
theorem dX0_isAhead_4 : decode cX0_isAhead 4 = .ok (.getfield 15, 3) := by decide +kernel
theorem dX0_isAhead_7 : decode cX0_isAhead 7 = .ok (.if_icmp .ge 57, 3) := by decide +kernel
theorem dX0_isAhead_10 : decode cX0_isAhead 10 = .ok (.iload_n 3, 1) := by decide +kernel
theorem dX0_isAhead_11 : decode cX0_isAhead 11 = .ok (.aload_n 0, 1) := by decide +kernel
theorem dX0_isAhead_12 : decode cX0_isAhead 12 = .ok (.getfield 9, 3) := by decide +kernel
theorem dX0_isAhead_15 : decode cX0_isAhead 15 = .ok (.arraylength, 1) := by decide +kernel
theorem dX0_isAhead_16 : decode cX0_isAhead 16 = .ok (.if_icmp .ge 48, 3) := by decide +kernel
theorem dX0_isAhead_19 : decode cX0_isAhead 19 = .ok (.aload_n 1, 1) := by decide +kernel
theorem dX0_isAhead_20 : decode cX0_isAhead 20 = .ok (.aload_n 0, 1) := by decide +kernel
theorem dX0_isAhead_21 : decode cX0_isAhead 21 = .ok (.getfield 9, 3) := by decide +kernel
theorem dX0_isAhead_24 : decode cX0_isAhead 24 = .ok (.iload_n 3, 1) := by decide +kernel
theorem dX0_isAhead_25 : decode cX0_isAhead 25 = .ok (.iaload, 1) := by decide +kernel
theorem dX0_isAhead_26 : decode cX0_isAhead 26 = .ok (.invokestatic 39, 3) := by decide +kernel
theorem dX0_isAhead_29 : decode cX0_isAhead 29 = .ok (.aload_n 2, 1) := by decide +kernel
theorem dX0_isAhead_30 : decode cX0_isAhead 30 = .ok (.aload_n 0, 1) := by decide +kernel
theorem dX0_isAhead_31 : decode cX0_isAhead 31 = .ok (.getfield 9, 3) := by decide +kernel
theorem dX0_isAhead_34 : decode cX0_isAhead 34 = .ok (.iload_n 3, 1) := by decide +kernel
theorem dX0_isAhead_35 : decode cX0_isAhead 35 = .ok (.iaload, 1) := by decide +kernel
theorem dX0_isAhead_36 : decode cX0_isAhead 36 = .ok (.invokestatic 39, 3) := by decide +kernel
theorem dX0_isAhead_39 : decode cX0_isAhead 39 = .ok (.isub, 1) := by decide +kernel
theorem dX0_isAhead_40 : decode cX0_isAhead 40 = .ok (.istore 4, 2) := by decide +kernel
theorem dX0_isAhead_42 : decode cX0_isAhead 42 = .ok (.iload 4, 2) := by decide +kernel
theorem dX0_isAhead_44 : decode cX0_isAhead 44 = .ok (.ifCond .eq 14, 3) := by decide +kernel
theorem dX0_isAhead_47 : decode cX0_isAhead 47 = .ok (.iload 4, 2) := by decide +kernel
theorem dX0_isAhead_49 : decode cX0_isAhead 49 = .ok (.ifCond .ge 7, 3) := by decide +kernel
theorem dX0_isAhead_52 : decode cX0_isAhead 52 = .ok (.iconst 1, 1) := by decide +kernel
theorem dX0_isAhead_53 : decode cX0_isAhead 53 = .ok (.goto 4, 3) := by decide +kernel
theorem dX0_isAhead_56 : decode cX0_isAhead 56 = .ok (.iconst 0, 1) := by decide +kernel
theorem dX0_isAhead_57 : decode cX0_isAhead 57 = .ok (.ireturn, 1) := by decide +kernel
theorem dX0_isAhead_58 : decode cX0_isAhead 58 = .ok (.iinc 3 1, 3) := by decide +kernel
theorem dX0_isAhead_61 : decode cX0_isAhead 61 = .ok (.goto (-59), 3) := by decide +kernel
theorem dX0_isAhead_64 : decode cX0_isAhead 64 = .ok (.aload_n 1, 1) := by decide +kernel
theorem dX0_isAhead_65 : decode cX0_isAhead 65 = .ok (.getfield 43, 3) := by decide +kernel
theorem dX0_isAhead_68 : decode cX0_isAhead 68 = .ok (.aload_n 2, 1) := by decide +kernel
theorem dX0_isAhead_69 : decode cX0_isAhead 69 = .ok (.getfield 43, 3) := by decide +kernel
theorem dX0_isAhead_72 : decode cX0_isAhead 72 = .ok (.if_icmp .ge 7, 3) := by decide +kernel
theorem dX0_isAhead_75 : decode cX0_isAhead 75 = .ok (.iconst 1, 1) := by decide +kernel
theorem dX0_isAhead_76 : decode cX0_isAhead 76 = .ok (.goto 4, 3) := by decide +kernel
theorem dX0_isAhead_79 : decode cX0_isAhead 79 = .ok (.iconst 0, 1) := by decide +kernel
theorem dX0_isAhead_80 : decode cX0_isAhead 80 = .ok (.ireturn, 1) := by decide +kernel
theorem dX0_rank_0 : decode cX0_rank 0 = .ok (.iload_n 1, 1) := by decide +kernel
theorem dX0_rank_1 : decode cX0_rank 1 = .ok (.lookupswitch 45 #[(0, 27), (1, 40)], 27) := by decide +kernel
theorem dX0_rank_28 : decode cX0_rank 28 = .ok (.aload_n 0, 1) := by decide +kernel
theorem dX0_rank_29 : decode cX0_rank 29 = .ok (.getfield 48, 3) := by decide +kernel
theorem dX0_rank_32 : decode cX0_rank 32 = .ok (.ifCond .eq 7, 3) := by decide +kernel
theorem dX0_rank_35 : decode cX0_rank 35 = .ok (.iconst 0, 1) := by decide +kernel
theorem dX0_rank_36 : decode cX0_rank 36 = .ok (.goto 4, 3) := by decide +kernel
theorem dX0_rank_39 : decode cX0_rank 39 = .ok (.iconst 1, 1) := by decide +kernel
theorem dX0_rank_40 : decode cX0_rank 40 = .ok (.ireturn, 1) := by decide +kernel
theorem dX0_rank_41 : decode cX0_rank 41 = .ok (.aload_n 0, 1) := by decide +kernel
theorem dX0_rank_42 : decode cX0_rank 42 = .ok (.getfield 51, 3) := by decide +kernel
theorem dX0_rank_45 : decode cX0_rank 45 = .ok (.ireturn, 1) := by decide +kernel
theorem dX0_rank_46 : decode cX0_rank 46 = .ok (.aload_n 0, 1) := by decide +kernel
theorem dX0_rank_47 : decode cX0_rank 47 = .ok (.getfield 54, 3) := by decide +kernel
theorem dX0_rank_50 : decode cX0_rank 50 = .ok (.ireturn, 1) := by decide +kernel
theorem dX1_init_0 : decode cX1_init 0 = .ok (.aload_n 0, 1) := by decide +kernel
theorem dX1_init_1 : decode cX1_init 1 = .ok (.invokespecial 1, 3) := by decide +kernel
theorem dX1_init_4 : decode cX1_init 4 = .ok (.aload_n 0, 1) := by decide +kernel
theorem dX1_init_5 : decode cX1_init 5 = .ok (.aconst_null, 1) := by decide +kernel
theorem dX1_init_6 : decode cX1_init 6 = .ok (.putfield 7, 3) := by decide +kernel
theorem dX1_init_9 : decode cX1_init 9 = .ok (.aload_n 0, 1) := by decide +kernel
theorem dX1_init_10 : decode cX1_init 10 = .ok (.iconst 0, 1) := by decide +kernel
theorem dX1_init_11 : decode cX1_init 11 = .ok (.putfield 13, 3) := by decide +kernel
theorem dX1_init_14 : decode cX1_init 14 = .ok (.aload_n 0, 1) := by decide +kernel
theorem dX1_init_15 : decode cX1_init 15 = .ok (.iconst 0, 1) := by decide +kernel
theorem dX1_init_16 : decode cX1_init 16 = .ok (.putfield 17, 3) := by decide +kernel
theorem dX1_init_19 : decode cX1_init 19 = .ok (.aload_n 0, 1) := by decide +kernel
theorem dX1_init_20 : decode cX1_init 20 = .ok (.iconst 0, 1) := by decide +kernel
theorem dX1_init_21 : decode cX1_init 21 = .ok (.putfield 20, 3) := by decide +kernel
theorem dX1_init_24 : decode cX1_init 24 = .ok (.aload_n 0, 1) := by decide +kernel
theorem dX1_init_25 : decode cX1_init 25 = .ok (.iconst 0, 1) := by decide +kernel
theorem dX1_init_26 : decode cX1_init 26 = .ok (.putfield 23, 3) := by decide +kernel
theorem dX1_init_29 : decode cX1_init 29 = .ok (.aload_n 0, 1) := by decide +kernel
theorem dX1_init_30 : decode cX1_init 30 = .ok (.iconst 0, 1) := by decide +kernel
theorem dX1_init_31 : decode cX1_init 31 = .ok (.putfield 26, 3) := by decide +kernel
theorem dX1_init_34 : decode cX1_init 34 = .ok (.aload_n 0, 1) := by decide +kernel
theorem dX1_init_35 : decode cX1_init 35 = .ok (.iload_n 1, 1) := by decide +kernel
theorem dX1_init_36 : decode cX1_init 36 = .ok (.putfield 29, 3) := by decide +kernel
theorem dX1_init_39 : decode cX1_init 39 = .ok (.aload_n 0, 1) := by decide +kernel
theorem dX1_init_40 : decode cX1_init 40 = .ok (.iload_n 2, 1) := by decide +kernel
theorem dX1_init_41 : decode cX1_init 41 = .ok (.putfield 32, 3) := by decide +kernel
theorem dX1_init_44 : decode cX1_init 44 = .ok (.aload_n 0, 1) := by decide +kernel
theorem dX1_init_45 : decode cX1_init 45 = .ok (.iload_n 3, 1) := by decide +kernel
theorem dX1_init_46 : decode cX1_init 46 = .ok (.putfield 35, 3) := by decide +kernel
theorem dX1_init_49 : decode cX1_init 49 = .ok (.aload_n 0, 1) := by decide +kernel
theorem dX1_init_50 : decode cX1_init 50 = .ok (.iload 4, 2) := by decide +kernel
theorem dX1_init_52 : decode cX1_init 52 = .ok (.putfield 38, 3) := by decide +kernel
theorem dX1_init_55 : decode cX1_init 55 = .ok (.aload_n 0, 1) := by decide +kernel
theorem dX1_init_56 : decode cX1_init 56 = .ok (.iload 5, 2) := by decide +kernel
theorem dX1_init_58 : decode cX1_init 58 = .ok (.putfield 41, 3) := by decide +kernel
theorem dX1_init_61 : decode cX1_init 61 = .ok (.aload_n 0, 1) := by decide +kernel
theorem dX1_init_62 : decode cX1_init 62 = .ok (.iload 6, 2) := by decide +kernel
theorem dX1_init_64 : decode cX1_init 64 = .ok (.putfield 44, 3) := by decide +kernel
theorem dX1_init_67 : decode cX1_init 67 = .ok (.return_, 1) := by decide +kernel
theorem dX1_isFed_0 : decode cX1_isFed 0 = .ok (.aload_n 0, 1) := by decide +kernel
theorem dX1_isFed_1 : decode cX1_isFed 1 = .ok (.getfield 13, 3) := by decide +kernel
theorem dX1_isFed_4 : decode cX1_isFed 4 = .ok (.aload_n 0, 1) := by decide +kernel
theorem dX1_isFed_5 : decode cX1_isFed 5 = .ok (.getfield 38, 3) := by decide +kernel
theorem dX1_isFed_8 : decode cX1_isFed 8 = .ok (.if_icmp .ne 7, 3) := by decide +kernel
theorem dX1_isFed_11 : decode cX1_isFed 11 = .ok (.iconst 1, 1) := by decide +kernel
theorem dX1_isFed_12 : decode cX1_isFed 12 = .ok (.goto 4, 3) := by decide +kernel
theorem dX1_isFed_15 : decode cX1_isFed 15 = .ok (.iconst 0, 1) := by decide +kernel
theorem dX1_isFed_16 : decode cX1_isFed 16 = .ok (.ireturn, 1) := by decide +kernel
theorem dX1_keepShare_0 : decode cX1_keepShare 0 = .ok (.aload_n 0, 1) := by decide +kernel
theorem dX1_keepShare_1 : decode cX1_keepShare 1 = .ok (.aload_n 0, 1) := by decide +kernel
theorem dX1_keepShare_2 : decode cX1_keepShare 2 = .ok (.getfield 13, 3) := by decide +kernel
theorem dX1_keepShare_5 : decode cX1_keepShare 5 = .ok (.putfield 26, 3) := by decide +kernel
theorem dX1_keepShare_8 : decode cX1_keepShare 8 = .ok (.aload_n 0, 1) := by decide +kernel
theorem dX1_keepShare_9 : decode cX1_keepShare 9 = .ok (.dup, 1) := by decide +kernel
theorem dX1_keepShare_10 : decode cX1_keepShare 10 = .ok (.getfield 23, 3) := by decide +kernel
theorem dX1_keepShare_13 : decode cX1_keepShare 13 = .ok (.aload_n 0, 1) := by decide +kernel
theorem dX1_keepShare_14 : decode cX1_keepShare 14 = .ok (.getfield 13, 3) := by decide +kernel
theorem dX1_keepShare_17 : decode cX1_keepShare 17 = .ok (.iadd, 1) := by decide +kernel
theorem dX1_keepShare_18 : decode cX1_keepShare 18 = .ok (.putfield 23, 3) := by decide +kernel
theorem dX1_keepShare_21 : decode cX1_keepShare 21 = .ok (.aload_n 0, 1) := by decide +kernel
theorem dX1_keepShare_22 : decode cX1_keepShare 22 = .ok (.invokevirtual 48, 3) := by decide +kernel
theorem dX1_keepShare_25 : decode cX1_keepShare 25 = .ok (.ifCond .eq 13, 3) := by decide +kernel
theorem dX1_keepShare_28 : decode cX1_keepShare 28 = .ok (.aload_n 0, 1) := by decide +kernel
theorem dX1_keepShare_29 : decode cX1_keepShare 29 = .ok (.dup, 1) := by decide +kernel
theorem dX1_keepShare_30 : decode cX1_keepShare 30 = .ok (.getfield 20, 3) := by decide +kernel
theorem dX1_keepShare_33 : decode cX1_keepShare 33 = .ok (.iconst 1, 1) := by decide +kernel
theorem dX1_keepShare_34 : decode cX1_keepShare 34 = .ok (.iadd, 1) := by decide +kernel
theorem dX1_keepShare_35 : decode cX1_keepShare 35 = .ok (.putfield 20, 3) := by decide +kernel
theorem dX1_keepShare_38 : decode cX1_keepShare 38 = .ok (.return_, 1) := by decide +kernel
theorem dX2_init_0 : decode cX2_init 0 = .ok (.aload_n 0, 1) := by decide +kernel
theorem dX2_init_1 : decode cX2_init 1 = .ok (.invokespecial 3, 3) := by decide +kernel
theorem dX2_init_4 : decode cX2_init 4 = .ok (.aload_n 0, 1) := by decide +kernel
theorem dX2_init_5 : decode cX2_init 5 = .ok (.new 9, 3) := by decide +kernel
theorem dX2_init_8 : decode cX2_init 8 = .ok (.dup, 1) := by decide +kernel
theorem dX2_init_9 : decode cX2_init 9 = .ok (.invokespecial 11, 3) := by decide +kernel
theorem dX2_init_12 : decode cX2_init 12 = .ok (.putfield 12, 3) := by decide +kernel
theorem dX2_init_15 : decode cX2_init 15 = .ok (.aload_n 0, 1) := by decide +kernel
theorem dX2_init_16 : decode cX2_init 16 = .ok (.iconst 0, 1) := by decide +kernel
theorem dX2_init_17 : decode cX2_init 17 = .ok (.putfield 18, 3) := by decide +kernel
theorem dX2_init_20 : decode cX2_init 20 = .ok (.aload_n 0, 1) := by decide +kernel
theorem dX2_init_21 : decode cX2_init 21 = .ok (.aload_n 1, 1) := by decide +kernel
theorem dX2_init_22 : decode cX2_init 22 = .ok (.putfield 22, 3) := by decide +kernel
theorem dX2_init_25 : decode cX2_init 25 = .ok (.aload_n 0, 1) := by decide +kernel
theorem dX2_init_26 : decode cX2_init 26 = .ok (.aload_n 2, 1) := by decide +kernel
theorem dX2_init_27 : decode cX2_init 27 = .ok (.putfield 26, 3) := by decide +kernel
theorem dX2_init_30 : decode cX2_init 30 = .ok (.return_, 1) := by decide +kernel
theorem dX2_startFromNow_0 : decode cX2_startFromNow 0 = .ok (.aload_n 0, 1) := by decide +kernel
theorem dX2_startFromNow_1 : decode cX2_startFromNow 1 = .ok (.getfield 22, 3) := by decide +kernel
theorem dX2_startFromNow_4 : decode cX2_startFromNow 4 = .ok (.astore_n 1, 1) := by decide +kernel
theorem dX2_startFromNow_5 : decode cX2_startFromNow 5 = .ok (.aload_n 1, 1) := by decide +kernel
theorem dX2_startFromNow_6 : decode cX2_startFromNow 6 = .ok (.ifnull 22, 3) := by decide +kernel
theorem dX2_startFromNow_9 : decode cX2_startFromNow 9 = .ok (.aload_n 1, 1) := by decide +kernel
theorem dX2_startFromNow_10 : decode cX2_startFromNow 10 = .ok (.getfield 30, 3) := by decide +kernel
theorem dX2_startFromNow_13 : decode cX2_startFromNow 13 = .ok (.aload_n 1, 1) := by decide +kernel
theorem dX2_startFromNow_14 : decode cX2_startFromNow 14 = .ok (.getfield 36, 3) := by decide +kernel
theorem dX2_startFromNow_17 : decode cX2_startFromNow 17 = .ok (.invokevirtual 39, 3) := by decide +kernel
theorem dX2_startFromNow_20 : decode cX2_startFromNow 20 = .ok (.aload_n 1, 1) := by decide +kernel
theorem dX2_startFromNow_21 : decode cX2_startFromNow 21 = .ok (.getfield 45, 3) := by decide +kernel
theorem dX2_startFromNow_24 : decode cX2_startFromNow 24 = .ok (.astore_n 1, 1) := by decide +kernel
theorem dX2_startFromNow_25 : decode cX2_startFromNow 25 = .ok (.goto (-20), 3) := by decide +kernel
theorem dX2_startFromNow_28 : decode cX2_startFromNow 28 = .ok (.return_, 1) := by decide +kernel
theorem dX2_passDay_0 : decode cX2_passDay 0 = .ok (.aload_n 0, 1) := by decide +kernel
theorem dX2_passDay_1 : decode cX2_passDay 1 = .ok (.getfield 12, 3) := by decide +kernel
theorem dX2_passDay_4 : decode cX2_passDay 4 = .ok (.invokevirtual 48, 3) := by decide +kernel
theorem dX2_passDay_7 : decode cX2_passDay 7 = .ok (.aload_n 0, 1) := by decide +kernel
theorem dX2_passDay_8 : decode cX2_passDay 8 = .ok (.iconst 0, 1) := by decide +kernel
theorem dX2_passDay_9 : decode cX2_passDay 9 = .ok (.putfield 18, 3) := by decide +kernel
theorem dX2_passDay_12 : decode cX2_passDay 12 = .ok (.iconst 0, 1) := by decide +kernel
theorem dX2_passDay_13 : decode cX2_passDay 13 = .ok (.istore_n 2, 1) := by decide +kernel
theorem dX2_passDay_14 : decode cX2_passDay 14 = .ok (.aload_n 0, 1) := by decide +kernel
theorem dX2_passDay_15 : decode cX2_passDay 15 = .ok (.getfield 22, 3) := by decide +kernel
theorem dX2_passDay_18 : decode cX2_passDay 18 = .ok (.astore_n 3, 1) := by decide +kernel
theorem dX2_passDay_19 : decode cX2_passDay 19 = .ok (.aload_n 3, 1) := by decide +kernel
theorem dX2_passDay_20 : decode cX2_passDay 20 = .ok (.ifnull 24, 3) := by decide +kernel
theorem dX2_passDay_23 : decode cX2_passDay 23 = .ok (.aload_n 0, 1) := by decide +kernel
theorem dX2_passDay_24 : decode cX2_passDay 24 = .ok (.aload_n 3, 1) := by decide +kernel
theorem dX2_passDay_25 : decode cX2_passDay 25 = .ok (.iload_n 1, 1) := by decide +kernel
theorem dX2_passDay_26 : decode cX2_passDay 26 = .ok (.aload_n 3, 1) := by decide +kernel
theorem dX2_passDay_27 : decode cX2_passDay 27 = .ok (.getfield 51, 3) := by decide +kernel
theorem dX2_passDay_30 : decode cX2_passDay 30 = .ok (.imul, 1) := by decide +kernel
theorem dX2_passDay_31 : decode cX2_passDay 31 = .ok (.iload_n 2, 1) := by decide +kernel
theorem dX2_passDay_32 : decode cX2_passDay 32 = .ok (.invokevirtual 54, 3) := by decide +kernel
theorem dX2_passDay_35 : decode cX2_passDay 35 = .ok (.istore_n 2, 1) := by decide +kernel
theorem dX2_passDay_36 : decode cX2_passDay 36 = .ok (.aload_n 3, 1) := by decide +kernel
theorem dX2_passDay_37 : decode cX2_passDay 37 = .ok (.getfield 45, 3) := by decide +kernel
theorem dX2_passDay_40 : decode cX2_passDay 40 = .ok (.astore_n 3, 1) := by decide +kernel
theorem dX2_passDay_41 : decode cX2_passDay 41 = .ok (.goto (-22), 3) := by decide +kernel
theorem dX2_passDay_44 : decode cX2_passDay 44 = .ok (.aload_n 0, 1) := by decide +kernel
theorem dX2_passDay_45 : decode cX2_passDay 45 = .ok (.getfield 12, 3) := by decide +kernel
theorem dX2_passDay_48 : decode cX2_passDay 48 = .ok (.dup, 1) := by decide +kernel
theorem dX2_passDay_49 : decode cX2_passDay 49 = .ok (.getfield 58, 3) := by decide +kernel
theorem dX2_passDay_52 : decode cX2_passDay 52 = .ok (.iload_n 2, 1) := by decide +kernel
theorem dX2_passDay_53 : decode cX2_passDay 53 = .ok (.iadd, 1) := by decide +kernel
theorem dX2_passDay_54 : decode cX2_passDay 54 = .ok (.putfield 58, 3) := by decide +kernel
theorem dX2_passDay_57 : decode cX2_passDay 57 = .ok (.return_, 1) := by decide +kernel
theorem dX2_sentDown_0 : decode cX2_sentDown 0 = .ok (.aload_n 1, 1) := by decide +kernel
theorem dX2_sentDown_1 : decode cX2_sentDown 1 = .ok (.getfield 30, 3) := by decide +kernel
theorem dX2_sentDown_4 : decode cX2_sentDown 4 = .ok (.astore 4, 2) := by decide +kernel
theorem dX2_sentDown_6 : decode cX2_sentDown 6 = .ok (.aload 4, 2) := by decide +kernel
theorem dX2_sentDown_8 : decode cX2_sentDown 8 = .ok (.getfield 61, 3) := by decide +kernel
theorem dX2_sentDown_11 : decode cX2_sentDown 11 = .ok (.iload_n 2, 1) := by decide +kernel
theorem dX2_sentDown_12 : decode cX2_sentDown 12 = .ok (.iadd, 1) := by decide +kernel
theorem dX2_sentDown_13 : decode cX2_sentDown 13 = .ok (.iload_n 3, 1) := by decide +kernel
theorem dX2_sentDown_14 : decode cX2_sentDown 14 = .ok (.iadd, 1) := by decide +kernel
theorem dX2_sentDown_15 : decode cX2_sentDown 15 = .ok (.istore 5, 2) := by decide +kernel
theorem dX2_sentDown_17 : decode cX2_sentDown 17 = .ok (.iload 5, 2) := by decide +kernel
theorem dX2_sentDown_19 : decode cX2_sentDown 19 = .ok (.bipush 50, 2) := by decide +kernel
theorem dX2_sentDown_21 : decode cX2_sentDown 21 = .ok (.idiv, 1) := by decide +kernel
theorem dX2_sentDown_22 : decode cX2_sentDown 22 = .ok (.istore 6, 2) := by decide +kernel
theorem dX2_sentDown_24 : decode cX2_sentDown 24 = .ok (.iload 5, 2) := by decide +kernel
theorem dX2_sentDown_26 : decode cX2_sentDown 26 = .ok (.iload 6, 2) := by decide +kernel
theorem dX2_sentDown_28 : decode cX2_sentDown 28 = .ok (.isub, 1) := by decide +kernel
theorem dX2_sentDown_29 : decode cX2_sentDown 29 = .ok (.istore 5, 2) := by decide +kernel
theorem dX2_sentDown_31 : decode cX2_sentDown 31 = .ok (.aload_n 0, 1) := by decide +kernel
theorem dX2_sentDown_32 : decode cX2_sentDown 32 = .ok (.aload_n 1, 1) := by decide +kernel
theorem dX2_sentDown_33 : decode cX2_sentDown 33 = .ok (.iload 5, 2) := by decide +kernel
theorem dX2_sentDown_35 : decode cX2_sentDown 35 = .ok (.invokevirtual 64, 3) := by decide +kernel
theorem dX2_sentDown_38 : decode cX2_sentDown 38 = .ok (.istore 7, 2) := by decide +kernel
theorem dX2_sentDown_40 : decode cX2_sentDown 40 = .ok (.iload 5, 2) := by decide +kernel
theorem dX2_sentDown_42 : decode cX2_sentDown 42 = .ok (.iload 7, 2) := by decide +kernel
theorem dX2_sentDown_44 : decode cX2_sentDown 44 = .ok (.isub, 1) := by decide +kernel
theorem dX2_sentDown_45 : decode cX2_sentDown 45 = .ok (.istore 5, 2) := by decide +kernel
theorem dX2_sentDown_47 : decode cX2_sentDown 47 = .ok (.iload 7, 2) := by decide +kernel
theorem dX2_sentDown_49 : decode cX2_sentDown 49 = .ok (.iconst 2, 1) := by decide +kernel
theorem dX2_sentDown_50 : decode cX2_sentDown 50 = .ok (.idiv, 1) := by decide +kernel
theorem dX2_sentDown_51 : decode cX2_sentDown 51 = .ok (.istore 8, 2) := by decide +kernel
theorem dX2_sentDown_53 : decode cX2_sentDown 53 = .ok (.iconst 0, 1) := by decide +kernel
theorem dX2_sentDown_54 : decode cX2_sentDown 54 = .ok (.iload 5, 2) := by decide +kernel
theorem dX2_sentDown_56 : decode cX2_sentDown 56 = .ok (.aload_n 1, 1) := by decide +kernel
theorem dX2_sentDown_57 : decode cX2_sentDown 57 = .ok (.aload 4, 2) := by decide +kernel
theorem dX2_sentDown_59 : decode cX2_sentDown 59 = .ok (.getfield 68, 3) := by decide +kernel
theorem dX2_sentDown_62 : decode cX2_sentDown 62 = .ok (.invokevirtual 72, 3) := by decide +kernel
theorem dX2_sentDown_65 : decode cX2_sentDown 65 = .ok (.isub, 1) := by decide +kernel
theorem dX2_sentDown_66 : decode cX2_sentDown 66 = .ok (.invokestatic 76, 3) := by decide +kernel
theorem dX2_sentDown_69 : decode cX2_sentDown 69 = .ok (.istore 9, 2) := by decide +kernel
theorem dX2_sentDown_71 : decode cX2_sentDown 71 = .ok (.aload 4, 2) := by decide +kernel
theorem dX2_sentDown_73 : decode cX2_sentDown 73 = .ok (.getfield 68, 3) := by decide +kernel
theorem dX2_sentDown_76 : decode cX2_sentDown 76 = .ok (.ifCond .ne 22, 3) := by decide +kernel
theorem dX2_sentDown_79 : decode cX2_sentDown 79 = .ok (.iload 9, 2) := by decide +kernel
theorem dX2_sentDown_81 : decode cX2_sentDown 81 = .ok (.aload_n 1, 1) := by decide +kernel
theorem dX2_sentDown_82 : decode cX2_sentDown 82 = .ok (.getfield 82, 3) := by decide +kernel
theorem dX2_sentDown_85 : decode cX2_sentDown 85 = .ok (.if_icmp .le 13, 3) := by decide +kernel
theorem dX2_sentDown_88 : decode cX2_sentDown 88 = .ok (.aload 4, 2) := by decide +kernel
theorem dX2_sentDown_90 : decode cX2_sentDown 90 = .ok (.iconst 1, 1) := by decide +kernel
theorem dX2_sentDown_91 : decode cX2_sentDown 91 = .ok (.putfield 68, 3) := by decide +kernel
theorem dX2_sentDown_94 : decode cX2_sentDown 94 = .ok (.iload 5, 2) := by decide +kernel
theorem dX2_sentDown_96 : decode cX2_sentDown 96 = .ok (.istore 9, 2) := by decide +kernel
theorem dX2_sentDown_98 : decode cX2_sentDown 98 = .ok (.aload 4, 2) := by decide +kernel
theorem dX2_sentDown_100 : decode cX2_sentDown 100 = .ok (.iload 5, 2) := by decide +kernel
theorem dX2_sentDown_102 : decode cX2_sentDown 102 = .ok (.iload 9, 2) := by decide +kernel
theorem dX2_sentDown_104 : decode cX2_sentDown 104 = .ok (.isub, 1) := by decide +kernel
theorem dX2_sentDown_105 : decode cX2_sentDown 105 = .ok (.putfield 61, 3) := by decide +kernel
theorem dX2_sentDown_108 : decode cX2_sentDown 108 = .ok (.aload 4, 2) := by decide +kernel
theorem dX2_sentDown_110 : decode cX2_sentDown 110 = .ok (.iload 7, 2) := by decide +kernel
theorem dX2_sentDown_112 : decode cX2_sentDown 112 = .ok (.putfield 85, 3) := by decide +kernel
theorem dX2_sentDown_115 : decode cX2_sentDown 115 = .ok (.aload 4, 2) := by decide +kernel
theorem dX2_sentDown_117 : decode cX2_sentDown 117 = .ok (.iload 9, 2) := by decide +kernel
theorem dX2_sentDown_119 : decode cX2_sentDown 119 = .ok (.putfield 88, 3) := by decide +kernel
theorem dX2_sentDown_122 : decode cX2_sentDown 122 = .ok (.aload_n 0, 1) := by decide +kernel
theorem dX2_sentDown_123 : decode cX2_sentDown 123 = .ok (.getfield 12, 3) := by decide +kernel
theorem dX2_sentDown_126 : decode cX2_sentDown 126 = .ok (.dup, 1) := by decide +kernel
theorem dX2_sentDown_127 : decode cX2_sentDown 127 = .ok (.getfield 91, 3) := by decide +kernel
theorem dX2_sentDown_130 : decode cX2_sentDown 130 = .ok (.iload_n 2, 1) := by decide +kernel
theorem dX2_sentDown_131 : decode cX2_sentDown 131 = .ok (.iadd, 1) := by decide +kernel
theorem dX2_sentDown_132 : decode cX2_sentDown 132 = .ok (.putfield 91, 3) := by decide +kernel
theorem dX2_sentDown_135 : decode cX2_sentDown 135 = .ok (.aload_n 0, 1) := by decide +kernel
theorem dX2_sentDown_136 : decode cX2_sentDown 136 = .ok (.getfield 12, 3) := by decide +kernel
theorem dX2_sentDown_139 : decode cX2_sentDown 139 = .ok (.dup, 1) := by decide +kernel
theorem dX2_sentDown_140 : decode cX2_sentDown 140 = .ok (.getfield 94, 3) := by decide +kernel
theorem dX2_sentDown_143 : decode cX2_sentDown 143 = .ok (.iload 6, 2) := by decide +kernel
theorem dX2_sentDown_145 : decode cX2_sentDown 145 = .ok (.iadd, 1) := by decide +kernel
theorem dX2_sentDown_146 : decode cX2_sentDown 146 = .ok (.putfield 94, 3) := by decide +kernel
theorem dX2_sentDown_149 : decode cX2_sentDown 149 = .ok (.aload_n 0, 1) := by decide +kernel
theorem dX2_sentDown_150 : decode cX2_sentDown 150 = .ok (.getfield 12, 3) := by decide +kernel
theorem dX2_sentDown_153 : decode cX2_sentDown 153 = .ok (.dup, 1) := by decide +kernel
theorem dX2_sentDown_154 : decode cX2_sentDown 154 = .ok (.getfield 97, 3) := by decide +kernel
theorem dX2_sentDown_157 : decode cX2_sentDown 157 = .ok (.iload 7, 2) := by decide +kernel
theorem dX2_sentDown_159 : decode cX2_sentDown 159 = .ok (.iload 8, 2) := by decide +kernel
theorem dX2_sentDown_161 : decode cX2_sentDown 161 = .ok (.isub, 1) := by decide +kernel
theorem dX2_sentDown_162 : decode cX2_sentDown 162 = .ok (.iadd, 1) := by decide +kernel
theorem dX2_sentDown_163 : decode cX2_sentDown 163 = .ok (.putfield 97, 3) := by decide +kernel
theorem dX2_sentDown_166 : decode cX2_sentDown 166 = .ok (.iload 8, 2) := by decide +kernel
theorem dX2_sentDown_168 : decode cX2_sentDown 168 = .ok (.iload 9, 2) := by decide +kernel
theorem dX2_sentDown_170 : decode cX2_sentDown 170 = .ok (.iadd, 1) := by decide +kernel
theorem dX2_sentDown_171 : decode cX2_sentDown 171 = .ok (.ireturn, 1) := by decide +kernel
theorem dX2_takenByFields_0 : decode cX2_takenByFields 0 = .ok (.aload_n 1, 1) := by decide +kernel
theorem dX2_takenByFields_1 : decode cX2_takenByFields 1 = .ok (.getfield 100, 3) := by decide +kernel
theorem dX2_takenByFields_4 : decode cX2_takenByFields 4 = .ok (.aload_n 0, 1) := by decide +kernel
theorem dX2_takenByFields_5 : decode cX2_takenByFields 5 = .ok (.getfield 26, 3) := by decide +kernel
theorem dX2_takenByFields_8 : decode cX2_takenByFields 8 = .ok (.getfield 103, 3) := by decide +kernel
theorem dX2_takenByFields_11 : decode cX2_takenByFields 11 = .ok (.imul, 1) := by decide +kernel
theorem dX2_takenByFields_12 : decode cX2_takenByFields 12 = .ok (.bipush 100, 2) := by decide +kernel
theorem dX2_takenByFields_14 : decode cX2_takenByFields 14 = .ok (.idiv, 1) := by decide +kernel
theorem dX2_takenByFields_15 : decode cX2_takenByFields 15 = .ok (.istore_n 3, 1) := by decide +kernel
theorem dX2_takenByFields_16 : decode cX2_takenByFields 16 = .ok (.aload_n 1, 1) := by decide +kernel
theorem dX2_takenByFields_17 : decode cX2_takenByFields 17 = .ok (.getfield 30, 3) := by decide +kernel
theorem dX2_takenByFields_20 : decode cX2_takenByFields 20 = .ok (.getfield 108, 3) := by decide +kernel
theorem dX2_takenByFields_23 : decode cX2_takenByFields 23 = .ok (.iconst 0, 1) := by decide +kernel
theorem dX2_takenByFields_24 : decode cX2_takenByFields 24 = .ok (.iload_n 2, 1) := by decide +kernel
theorem dX2_takenByFields_25 : decode cX2_takenByFields 25 = .ok (.iload_n 3, 1) := by decide +kernel
theorem dX2_takenByFields_26 : decode cX2_takenByFields 26 = .ok (.isub, 1) := by decide +kernel
theorem dX2_takenByFields_27 : decode cX2_takenByFields 27 = .ok (.invokestatic 76, 3) := by decide +kernel
theorem dX2_takenByFields_30 : decode cX2_takenByFields 30 = .ok (.invokestatic 111, 3) := by decide +kernel
theorem dX2_takenByFields_33 : decode cX2_takenByFields 33 = .ok (.istore 4, 2) := by decide +kernel
theorem dX2_takenByFields_35 : decode cX2_takenByFields 35 = .ok (.aload_n 1, 1) := by decide +kernel
theorem dX2_takenByFields_36 : decode cX2_takenByFields 36 = .ok (.iload_n 2, 1) := by decide +kernel
theorem dX2_takenByFields_37 : decode cX2_takenByFields 37 = .ok (.invokevirtual 114, 3) := by decide +kernel
theorem dX2_takenByFields_40 : decode cX2_takenByFields 40 = .ok (.ifCond .eq 13, 3) := by decide +kernel
theorem dX2_takenByFields_43 : decode cX2_takenByFields 43 = .ok (.aload_n 0, 1) := by decide +kernel
theorem dX2_takenByFields_44 : decode cX2_takenByFields 44 = .ok (.getfield 26, 3) := by decide +kernel
theorem dX2_takenByFields_47 : decode cX2_takenByFields 47 = .ok (.getfield 118, 3) := by decide +kernel
theorem dX2_takenByFields_50 : decode cX2_takenByFields 50 = .ok (.goto 5, 3) := by decide +kernel
theorem dX2_takenByFields_53 : decode cX2_takenByFields 53 = .ok (.bipush 9, 2) := by decide +kernel
theorem dX2_takenByFields_55 : decode cX2_takenByFields 55 = .ok (.istore 5, 2) := by decide +kernel
theorem dX2_takenByFields_57 : decode cX2_takenByFields 57 = .ok (.aload_n 1, 1) := by decide +kernel
theorem dX2_takenByFields_58 : decode cX2_takenByFields 58 = .ok (.iload 5, 2) := by decide +kernel
theorem dX2_takenByFields_60 : decode cX2_takenByFields 60 = .ok (.invokestatic 121, 3) := by decide +kernel
theorem dX2_takenByFields_63 : decode cX2_takenByFields 63 = .ok (.istore 6, 2) := by decide +kernel
theorem dX2_takenByFields_65 : decode cX2_takenByFields 65 = .ok (.aload_n 0, 1) := by decide +kernel
theorem dX2_takenByFields_66 : decode cX2_takenByFields 66 = .ok (.getfield 26, 3) := by decide +kernel
theorem dX2_takenByFields_69 : decode cX2_takenByFields 69 = .ok (.getfield 124, 3) := by decide +kernel
theorem dX2_takenByFields_72 : decode cX2_takenByFields 72 = .ok (.ifCond .eq 23, 3) := by decide +kernel
theorem dX2_takenByFields_75 : decode cX2_takenByFields 75 = .ok (.iload 4, 2) := by decide +kernel
theorem dX2_takenByFields_77 : decode cX2_takenByFields 77 = .ok (.iload 6, 2) := by decide +kernel
theorem dX2_takenByFields_79 : decode cX2_takenByFields 79 = .ok (.if_icmp .ge 16, 3) := by decide +kernel
theorem dX2_takenByFields_82 : decode cX2_takenByFields 82 = .ok (.aload_n 1, 1) := by decide +kernel
theorem dX2_takenByFields_83 : decode cX2_takenByFields 83 = .ok (.iload 5, 2) := by decide +kernel
theorem dX2_takenByFields_85 : decode cX2_takenByFields 85 = .ok (.iload 4, 2) := by decide +kernel
theorem dX2_takenByFields_87 : decode cX2_takenByFields 87 = .ok (.iload 6, 2) := by decide +kernel
theorem dX2_takenByFields_89 : decode cX2_takenByFields 89 = .ok (.invokestatic 127, 3) := by decide +kernel
theorem dX2_takenByFields_92 : decode cX2_takenByFields 92 = .ok (.goto 11, 3) := by decide +kernel
theorem dX2_takenByFields_95 : decode cX2_takenByFields 95 = .ok (.aload_n 1, 1) := by decide +kernel
theorem dX2_takenByFields_96 : decode cX2_takenByFields 96 = .ok (.iload 5, 2) := by decide +kernel
theorem dX2_takenByFields_98 : decode cX2_takenByFields 98 = .ok (.iload 4, 2) := by decide +kernel
theorem dX2_takenByFields_100 : decode cX2_takenByFields 100 = .ok (.invokestatic 131, 3) := by decide +kernel
theorem dX2_takenByFields_103 : decode cX2_takenByFields 103 = .ok (.iconst 0, 1) := by decide +kernel
theorem dX2_takenByFields_104 : decode cX2_takenByFields 104 = .ok (.istore 7, 2) := by decide +kernel
theorem dX2_takenByFields_106 : decode cX2_takenByFields 106 = .ok (.aload_n 1, 1) := by decide +kernel
theorem dX2_takenByFields_107 : decode cX2_takenByFields 107 = .ok (.getfield 135, 3) := by decide +kernel
theorem dX2_takenByFields_110 : decode cX2_takenByFields 110 = .ok (.astore 8, 2) := by decide +kernel
theorem dX2_takenByFields_112 : decode cX2_takenByFields 112 = .ok (.aload 8, 2) := by decide +kernel
theorem dX2_takenByFields_114 : decode cX2_takenByFields 114 = .ok (.ifnull 49, 3) := by decide +kernel
theorem dX2_takenByFields_117 : decode cX2_takenByFields 117 = .ok (.iload 7, 2) := by decide +kernel
theorem dX2_takenByFields_119 : decode cX2_takenByFields 119 = .ok (.aload 8, 2) := by decide +kernel
theorem dX2_takenByFields_121 : decode cX2_takenByFields 121 = .ok (.getfield 139, 3) := by decide +kernel
theorem dX2_takenByFields_124 : decode cX2_takenByFields 124 = .ok (.iadd, 1) := by decide +kernel
theorem dX2_takenByFields_125 : decode cX2_takenByFields 125 = .ok (.istore 7, 2) := by decide +kernel
theorem dX2_takenByFields_127 : decode cX2_takenByFields 127 = .ok (.aload_n 0, 1) := by decide +kernel
theorem dX2_takenByFields_128 : decode cX2_takenByFields 128 = .ok (.dup, 1) := by decide +kernel
theorem dX2_takenByFields_129 : decode cX2_takenByFields 129 = .ok (.getfield 18, 3) := by decide +kernel
theorem dX2_takenByFields_132 : decode cX2_takenByFields 132 = .ok (.aload 8, 2) := by decide +kernel
theorem dX2_takenByFields_134 : decode cX2_takenByFields 134 = .ok (.invokevirtual 144, 3) := by decide +kernel
theorem dX2_takenByFields_137 : decode cX2_takenByFields 137 = .ok (.ifCond .eq 11, 3) := by decide +kernel
theorem dX2_takenByFields_140 : decode cX2_takenByFields 140 = .ok (.aload 8, 2) := by decide +kernel
theorem dX2_takenByFields_142 : decode cX2_takenByFields 142 = .ok (.getfield 148, 3) := by decide +kernel
theorem dX2_takenByFields_145 : decode cX2_takenByFields 145 = .ok (.goto 4, 3) := by decide +kernel
theorem dX2_takenByFields_148 : decode cX2_takenByFields 148 = .ok (.iconst 0, 1) := by decide +kernel
theorem dX2_takenByFields_149 : decode cX2_takenByFields 149 = .ok (.iadd, 1) := by decide +kernel
theorem dX2_takenByFields_150 : decode cX2_takenByFields 150 = .ok (.putfield 18, 3) := by decide +kernel
theorem dX2_takenByFields_153 : decode cX2_takenByFields 153 = .ok (.aload 8, 2) := by decide +kernel
theorem dX2_takenByFields_155 : decode cX2_takenByFields 155 = .ok (.getfield 151, 3) := by decide +kernel
theorem dX2_takenByFields_158 : decode cX2_takenByFields 158 = .ok (.astore 8, 2) := by decide +kernel
theorem dX2_takenByFields_160 : decode cX2_takenByFields 160 = .ok (.goto (-48), 3) := by decide +kernel
theorem dX2_takenByFields_163 : decode cX2_takenByFields 163 = .ok (.iload 7, 2) := by decide +kernel
theorem dX2_takenByFields_165 : decode cX2_takenByFields 165 = .ok (.ireturn, 1) := by decide +kernel
theorem dX2_areasWithin_0 : decode cX2_areasWithin 0 = .ok (.iconst 0, 1) := by decide +kernel
theorem dX2_areasWithin_1 : decode cX2_areasWithin 1 = .ok (.istore_n 2, 1) := by decide +kernel
theorem dX2_areasWithin_2 : decode cX2_areasWithin 2 = .ok (.aload_n 0, 1) := by decide +kernel
theorem dX2_areasWithin_3 : decode cX2_areasWithin 3 = .ok (.getfield 135, 3) := by decide +kernel
theorem dX2_areasWithin_6 : decode cX2_areasWithin 6 = .ok (.astore_n 3, 1) := by decide +kernel
theorem dX2_areasWithin_7 : decode cX2_areasWithin 7 = .ok (.aload_n 3, 1) := by decide +kernel
theorem dX2_areasWithin_8 : decode cX2_areasWithin 8 = .ok (.ifnull 30, 3) := by decide +kernel
theorem dX2_areasWithin_11 : decode cX2_areasWithin 11 = .ok (.iload_n 2, 1) := by decide +kernel
theorem dX2_areasWithin_12 : decode cX2_areasWithin 12 = .ok (.aload_n 3, 1) := by decide +kernel
theorem dX2_areasWithin_13 : decode cX2_areasWithin 13 = .ok (.getfield 154, 3) := by decide +kernel
theorem dX2_areasWithin_16 : decode cX2_areasWithin 16 = .ok (.iload_n 1, 1) := by decide +kernel
theorem dX2_areasWithin_17 : decode cX2_areasWithin 17 = .ok (.if_icmp .gt 10, 3) := by decide +kernel
theorem dX2_areasWithin_20 : decode cX2_areasWithin 20 = .ok (.aload_n 3, 1) := by decide +kernel
theorem dX2_areasWithin_21 : decode cX2_areasWithin 21 = .ok (.getfield 148, 3) := by decide +kernel
theorem dX2_areasWithin_24 : decode cX2_areasWithin 24 = .ok (.goto 4, 3) := by decide +kernel
theorem dX2_areasWithin_27 : decode cX2_areasWithin 27 = .ok (.iconst 0, 1) := by decide +kernel
theorem dX2_areasWithin_28 : decode cX2_areasWithin 28 = .ok (.iadd, 1) := by decide +kernel
theorem dX2_areasWithin_29 : decode cX2_areasWithin 29 = .ok (.istore_n 2, 1) := by decide +kernel
theorem dX2_areasWithin_30 : decode cX2_areasWithin 30 = .ok (.aload_n 3, 1) := by decide +kernel
theorem dX2_areasWithin_31 : decode cX2_areasWithin 31 = .ok (.getfield 151, 3) := by decide +kernel
theorem dX2_areasWithin_34 : decode cX2_areasWithin 34 = .ok (.astore_n 3, 1) := by decide +kernel
theorem dX2_areasWithin_35 : decode cX2_areasWithin 35 = .ok (.goto (-28), 3) := by decide +kernel
theorem dX2_areasWithin_38 : decode cX2_areasWithin 38 = .ok (.iload_n 2, 1) := by decide +kernel
theorem dX2_areasWithin_39 : decode cX2_areasWithin 39 = .ok (.ireturn, 1) := by decide +kernel
theorem dX2_shareInOrder_0 : decode cX2_shareInOrder 0 = .ok (.iload_n 2, 1) := by decide +kernel
theorem dX2_shareInOrder_1 : decode cX2_shareInOrder 1 = .ok (.istore_n 3, 1) := by decide +kernel
theorem dX2_shareInOrder_2 : decode cX2_shareInOrder 2 = .ok (.aload_n 0, 1) := by decide +kernel
theorem dX2_shareInOrder_3 : decode cX2_shareInOrder 3 = .ok (.getfield 135, 3) := by decide +kernel
theorem dX2_shareInOrder_6 : decode cX2_shareInOrder 6 = .ok (.astore 4, 2) := by decide +kernel
theorem dX2_shareInOrder_8 : decode cX2_shareInOrder 8 = .ok (.aload 4, 2) := by decide +kernel
theorem dX2_shareInOrder_10 : decode cX2_shareInOrder 10 = .ok (.ifnull 53, 3) := by decide +kernel
theorem dX2_shareInOrder_13 : decode cX2_shareInOrder 13 = .ok (.aload 4, 2) := by decide +kernel
theorem dX2_shareInOrder_15 : decode cX2_shareInOrder 15 = .ok (.aload 4, 2) := by decide +kernel
theorem dX2_shareInOrder_17 : decode cX2_shareInOrder 17 = .ok (.getfield 154, 3) := by decide +kernel
theorem dX2_shareInOrder_20 : decode cX2_shareInOrder 20 = .ok (.iload_n 1, 1) := by decide +kernel
theorem dX2_shareInOrder_21 : decode cX2_shareInOrder 21 = .ok (.if_icmp .gt 20, 3) := by decide +kernel
theorem dX2_shareInOrder_24 : decode cX2_shareInOrder 24 = .ok (.aload 4, 2) := by decide +kernel
theorem dX2_shareInOrder_26 : decode cX2_shareInOrder 26 = .ok (.getfield 148, 3) := by decide +kernel
theorem dX2_shareInOrder_29 : decode cX2_shareInOrder 29 = .ok (.iload_n 3, 1) := by decide +kernel
theorem dX2_shareInOrder_30 : decode cX2_shareInOrder 30 = .ok (.if_icmp .gt 11, 3) := by decide +kernel
theorem dX2_shareInOrder_33 : decode cX2_shareInOrder 33 = .ok (.aload 4, 2) := by decide +kernel
theorem dX2_shareInOrder_35 : decode cX2_shareInOrder 35 = .ok (.getfield 148, 3) := by decide +kernel
theorem dX2_shareInOrder_38 : decode cX2_shareInOrder 38 = .ok (.goto 4, 3) := by decide +kernel
theorem dX2_shareInOrder_41 : decode cX2_shareInOrder 41 = .ok (.iconst 0, 1) := by decide +kernel
theorem dX2_shareInOrder_42 : decode cX2_shareInOrder 42 = .ok (.putfield 139, 3) := by decide +kernel
theorem dX2_shareInOrder_45 : decode cX2_shareInOrder 45 = .ok (.iload_n 3, 1) := by decide +kernel
theorem dX2_shareInOrder_46 : decode cX2_shareInOrder 46 = .ok (.aload 4, 2) := by decide +kernel
theorem dX2_shareInOrder_48 : decode cX2_shareInOrder 48 = .ok (.getfield 139, 3) := by decide +kernel
theorem dX2_shareInOrder_51 : decode cX2_shareInOrder 51 = .ok (.isub, 1) := by decide +kernel
theorem dX2_shareInOrder_52 : decode cX2_shareInOrder 52 = .ok (.istore_n 3, 1) := by decide +kernel
theorem dX2_shareInOrder_53 : decode cX2_shareInOrder 53 = .ok (.aload 4, 2) := by decide +kernel
theorem dX2_shareInOrder_55 : decode cX2_shareInOrder 55 = .ok (.getfield 151, 3) := by decide +kernel
theorem dX2_shareInOrder_58 : decode cX2_shareInOrder 58 = .ok (.astore 4, 2) := by decide +kernel
theorem dX2_shareInOrder_60 : decode cX2_shareInOrder 60 = .ok (.goto (-52), 3) := by decide +kernel
theorem dX2_shareInOrder_63 : decode cX2_shareInOrder 63 = .ok (.return_, 1) := by decide +kernel
theorem dX2_shareFairly_0 : decode cX2_shareFairly 0 = .ok (.iload_n 2, 1) := by decide +kernel
theorem dX2_shareFairly_1 : decode cX2_shareFairly 1 = .ok (.istore 4, 2) := by decide +kernel
theorem dX2_shareFairly_3 : decode cX2_shareFairly 3 = .ok (.aload_n 0, 1) := by decide +kernel
theorem dX2_shareFairly_4 : decode cX2_shareFairly 4 = .ok (.getfield 135, 3) := by decide +kernel
theorem dX2_shareFairly_7 : decode cX2_shareFairly 7 = .ok (.astore 5, 2) := by decide +kernel
theorem dX2_shareFairly_9 : decode cX2_shareFairly 9 = .ok (.aload 5, 2) := by decide +kernel
theorem dX2_shareFairly_11 : decode cX2_shareFairly 11 = .ok (.ifnull 77, 3) := by decide +kernel
theorem dX2_shareFairly_14 : decode cX2_shareFairly 14 = .ok (.aload 5, 2) := by decide +kernel
theorem dX2_shareFairly_16 : decode cX2_shareFairly 16 = .ok (.getfield 154, 3) := by decide +kernel
theorem dX2_shareFairly_19 : decode cX2_shareFairly 19 = .ok (.iload_n 1, 1) := by decide +kernel
theorem dX2_shareFairly_20 : decode cX2_shareFairly 20 = .ok (.if_icmp .gt 13, 3) := by decide +kernel
theorem dX2_shareFairly_23 : decode cX2_shareFairly 23 = .ok (.iload_n 2, 1) := by decide +kernel
theorem dX2_shareFairly_24 : decode cX2_shareFairly 24 = .ok (.aload 5, 2) := by decide +kernel
theorem dX2_shareFairly_26 : decode cX2_shareFairly 26 = .ok (.getfield 148, 3) := by decide +kernel
theorem dX2_shareFairly_29 : decode cX2_shareFairly 29 = .ok (.imul, 1) := by decide +kernel
theorem dX2_shareFairly_30 : decode cX2_shareFairly 30 = .ok (.goto 4, 3) := by decide +kernel
theorem dX2_shareFairly_33 : decode cX2_shareFairly 33 = .ok (.iconst 0, 1) := by decide +kernel
theorem dX2_shareFairly_34 : decode cX2_shareFairly 34 = .ok (.istore 6, 2) := by decide +kernel
theorem dX2_shareFairly_36 : decode cX2_shareFairly 36 = .ok (.aload 5, 2) := by decide +kernel
theorem dX2_shareFairly_38 : decode cX2_shareFairly 38 = .ok (.iload_n 3, 1) := by decide +kernel
theorem dX2_shareFairly_39 : decode cX2_shareFairly 39 = .ok (.ifCond .le 10, 3) := by decide +kernel
theorem dX2_shareFairly_42 : decode cX2_shareFairly 42 = .ok (.iload 6, 2) := by decide +kernel
theorem dX2_shareFairly_44 : decode cX2_shareFairly 44 = .ok (.iload_n 3, 1) := by decide +kernel
theorem dX2_shareFairly_45 : decode cX2_shareFairly 45 = .ok (.idiv, 1) := by decide +kernel
theorem dX2_shareFairly_46 : decode cX2_shareFairly 46 = .ok (.goto 4, 3) := by decide +kernel
theorem dX2_shareFairly_49 : decode cX2_shareFairly 49 = .ok (.iconst 0, 1) := by decide +kernel
theorem dX2_shareFairly_50 : decode cX2_shareFairly 50 = .ok (.putfield 139, 3) := by decide +kernel
theorem dX2_shareFairly_53 : decode cX2_shareFairly 53 = .ok (.aload 5, 2) := by decide +kernel
theorem dX2_shareFairly_55 : decode cX2_shareFairly 55 = .ok (.iload 6, 2) := by decide +kernel
theorem dX2_shareFairly_57 : decode cX2_shareFairly 57 = .ok (.aload 5, 2) := by decide +kernel
theorem dX2_shareFairly_59 : decode cX2_shareFairly 59 = .ok (.getfield 139, 3) := by decide +kernel
theorem dX2_shareFairly_62 : decode cX2_shareFairly 62 = .ok (.iload_n 3, 1) := by decide +kernel
theorem dX2_shareFairly_63 : decode cX2_shareFairly 63 = .ok (.imul, 1) := by decide +kernel
theorem dX2_shareFairly_64 : decode cX2_shareFairly 64 = .ok (.isub, 1) := by decide +kernel
theorem dX2_shareFairly_65 : decode cX2_shareFairly 65 = .ok (.putfield 157, 3) := by decide +kernel
theorem dX2_shareFairly_68 : decode cX2_shareFairly 68 = .ok (.iload 4, 2) := by decide +kernel
theorem dX2_shareFairly_70 : decode cX2_shareFairly 70 = .ok (.aload 5, 2) := by decide +kernel
theorem dX2_shareFairly_72 : decode cX2_shareFairly 72 = .ok (.getfield 139, 3) := by decide +kernel
theorem dX2_shareFairly_75 : decode cX2_shareFairly 75 = .ok (.isub, 1) := by decide +kernel
theorem dX2_shareFairly_76 : decode cX2_shareFairly 76 = .ok (.istore 4, 2) := by decide +kernel
theorem dX2_shareFairly_78 : decode cX2_shareFairly 78 = .ok (.aload 5, 2) := by decide +kernel
theorem dX2_shareFairly_80 : decode cX2_shareFairly 80 = .ok (.getfield 151, 3) := by decide +kernel
theorem dX2_shareFairly_83 : decode cX2_shareFairly 83 = .ok (.astore 5, 2) := by decide +kernel
theorem dX2_shareFairly_85 : decode cX2_shareFairly 85 = .ok (.goto (-76), 3) := by decide +kernel
theorem dX2_shareFairly_88 : decode cX2_shareFairly 88 = .ok (.iload 4, 2) := by decide +kernel
theorem dX2_shareFairly_90 : decode cX2_shareFairly 90 = .ok (.ifCond .le 13, 3) := by decide +kernel
theorem dX2_shareFairly_93 : decode cX2_shareFairly 93 = .ok (.aload_n 0, 1) := by decide +kernel
theorem dX2_shareFairly_94 : decode cX2_shareFairly 94 = .ok (.invokestatic 160, 3) := by decide +kernel
theorem dX2_shareFairly_97 : decode cX2_shareFairly 97 = .ok (.iinc 4 (-1), 3) := by decide +kernel
theorem dX2_shareFairly_100 : decode cX2_shareFairly 100 = .ok (.goto (-12), 3) := by decide +kernel
theorem dX2_shareFairly_103 : decode cX2_shareFairly 103 = .ok (.return_, 1) := by decide +kernel
theorem dX2_giveOneMore_0 : decode cX2_giveOneMore 0 = .ok (.aconst_null, 1) := by decide +kernel
theorem dX2_giveOneMore_1 : decode cX2_giveOneMore 1 = .ok (.astore_n 1, 1) := by decide +kernel
theorem dX2_giveOneMore_2 : decode cX2_giveOneMore 2 = .ok (.iconst 0, 1) := by decide +kernel
theorem dX2_giveOneMore_3 : decode cX2_giveOneMore 3 = .ok (.istore_n 2, 1) := by decide +kernel
theorem dX2_giveOneMore_4 : decode cX2_giveOneMore 4 = .ok (.aload_n 0, 1) := by decide +kernel
theorem dX2_giveOneMore_5 : decode cX2_giveOneMore 5 = .ok (.getfield 135, 3) := by decide +kernel
theorem dX2_giveOneMore_8 : decode cX2_giveOneMore 8 = .ok (.astore_n 3, 1) := by decide +kernel
theorem dX2_giveOneMore_9 : decode cX2_giveOneMore 9 = .ok (.aload_n 3, 1) := by decide +kernel
theorem dX2_giveOneMore_10 : decode cX2_giveOneMore 10 = .ok (.ifnull 26, 3) := by decide +kernel
theorem dX2_giveOneMore_13 : decode cX2_giveOneMore 13 = .ok (.aload_n 3, 1) := by decide +kernel
theorem dX2_giveOneMore_14 : decode cX2_giveOneMore 14 = .ok (.getfield 157, 3) := by decide +kernel
theorem dX2_giveOneMore_17 : decode cX2_giveOneMore 17 = .ok (.iload_n 2, 1) := by decide +kernel
theorem dX2_giveOneMore_18 : decode cX2_giveOneMore 18 = .ok (.if_icmp .le 10, 3) := by decide +kernel
theorem dX2_giveOneMore_21 : decode cX2_giveOneMore 21 = .ok (.aload_n 3, 1) := by decide +kernel
theorem dX2_giveOneMore_22 : decode cX2_giveOneMore 22 = .ok (.getfield 157, 3) := by decide +kernel
theorem dX2_giveOneMore_25 : decode cX2_giveOneMore 25 = .ok (.istore_n 2, 1) := by decide +kernel
theorem dX2_giveOneMore_26 : decode cX2_giveOneMore 26 = .ok (.aload_n 3, 1) := by decide +kernel
theorem dX2_giveOneMore_27 : decode cX2_giveOneMore 27 = .ok (.astore_n 1, 1) := by decide +kernel
theorem dX2_giveOneMore_28 : decode cX2_giveOneMore 28 = .ok (.aload_n 3, 1) := by decide +kernel
theorem dX2_giveOneMore_29 : decode cX2_giveOneMore 29 = .ok (.getfield 151, 3) := by decide +kernel
theorem dX2_giveOneMore_32 : decode cX2_giveOneMore 32 = .ok (.astore_n 3, 1) := by decide +kernel
theorem dX2_giveOneMore_33 : decode cX2_giveOneMore 33 = .ok (.goto (-24), 3) := by decide +kernel
theorem dX2_giveOneMore_36 : decode cX2_giveOneMore 36 = .ok (.aload_n 1, 1) := by decide +kernel
theorem dX2_giveOneMore_37 : decode cX2_giveOneMore 37 = .ok (.ifnull 18, 3) := by decide +kernel
theorem dX2_giveOneMore_40 : decode cX2_giveOneMore 40 = .ok (.aload_n 1, 1) := by decide +kernel
theorem dX2_giveOneMore_41 : decode cX2_giveOneMore 41 = .ok (.dup, 1) := by decide +kernel
theorem dX2_giveOneMore_42 : decode cX2_giveOneMore 42 = .ok (.getfield 139, 3) := by decide +kernel
theorem dX2_giveOneMore_45 : decode cX2_giveOneMore 45 = .ok (.iconst 1, 1) := by decide +kernel
theorem dX2_giveOneMore_46 : decode cX2_giveOneMore 46 = .ok (.iadd, 1) := by decide +kernel
theorem dX2_giveOneMore_47 : decode cX2_giveOneMore 47 = .ok (.putfield 139, 3) := by decide +kernel
theorem dX2_giveOneMore_50 : decode cX2_giveOneMore 50 = .ok (.aload_n 1, 1) := by decide +kernel
theorem dX2_giveOneMore_51 : decode cX2_giveOneMore 51 = .ok (.iconst 0, 1) := by decide +kernel
theorem dX2_giveOneMore_52 : decode cX2_giveOneMore 52 = .ok (.putfield 157, 3) := by decide +kernel
theorem dX2_giveOneMore_55 : decode cX2_giveOneMore 55 = .ok (.return_, 1) := by decide +kernel
theorem dX3_init_0 : decode cX3_init 0 = .ok (.aload_n 0, 1) := by decide +kernel
theorem dX3_init_1 : decode cX3_init 1 = .ok (.invokespecial 1, 3) := by decide +kernel
theorem dX3_init_4 : decode cX3_init 4 = .ok (.aload_n 0, 1) := by decide +kernel
theorem dX3_init_5 : decode cX3_init 5 = .ok (.iconst 0, 1) := by decide +kernel
theorem dX3_init_6 : decode cX3_init 6 = .ok (.putfield 7, 3) := by decide +kernel
theorem dX3_init_9 : decode cX3_init 9 = .ok (.aload_n 0, 1) := by decide +kernel
theorem dX3_init_10 : decode cX3_init 10 = .ok (.iconst 0, 1) := by decide +kernel
theorem dX3_init_11 : decode cX3_init 11 = .ok (.putfield 13, 3) := by decide +kernel
theorem dX3_init_14 : decode cX3_init 14 = .ok (.aload_n 0, 1) := by decide +kernel
theorem dX3_init_15 : decode cX3_init 15 = .ok (.iconst 0, 1) := by decide +kernel
theorem dX3_init_16 : decode cX3_init 16 = .ok (.putfield 16, 3) := by decide +kernel
theorem dX3_init_19 : decode cX3_init 19 = .ok (.aload_n 0, 1) := by decide +kernel
theorem dX3_init_20 : decode cX3_init 20 = .ok (.iconst 0, 1) := by decide +kernel
theorem dX3_init_21 : decode cX3_init 21 = .ok (.putfield 20, 3) := by decide +kernel
theorem dX3_init_24 : decode cX3_init 24 = .ok (.aload_n 0, 1) := by decide +kernel
theorem dX3_init_25 : decode cX3_init 25 = .ok (.iconst 0, 1) := by decide +kernel
theorem dX3_init_26 : decode cX3_init 26 = .ok (.putfield 23, 3) := by decide +kernel
theorem dX3_init_29 : decode cX3_init 29 = .ok (.return_, 1) := by decide +kernel
theorem dX3_becomeAs_0 : decode cX3_becomeAs 0 = .ok (.aload_n 0, 1) := by decide +kernel
theorem dX3_becomeAs_1 : decode cX3_becomeAs 1 = .ok (.aload_n 1, 1) := by decide +kernel
theorem dX3_becomeAs_2 : decode cX3_becomeAs 2 = .ok (.getfield 7, 3) := by decide +kernel
theorem dX3_becomeAs_5 : decode cX3_becomeAs 5 = .ok (.putfield 7, 3) := by decide +kernel
theorem dX3_becomeAs_8 : decode cX3_becomeAs 8 = .ok (.aload_n 0, 1) := by decide +kernel
theorem dX3_becomeAs_9 : decode cX3_becomeAs 9 = .ok (.aload_n 1, 1) := by decide +kernel
theorem dX3_becomeAs_10 : decode cX3_becomeAs 10 = .ok (.getfield 13, 3) := by decide +kernel
theorem dX3_becomeAs_13 : decode cX3_becomeAs 13 = .ok (.putfield 13, 3) := by decide +kernel
theorem dX3_becomeAs_16 : decode cX3_becomeAs 16 = .ok (.aload_n 0, 1) := by decide +kernel
theorem dX3_becomeAs_17 : decode cX3_becomeAs 17 = .ok (.aload_n 1, 1) := by decide +kernel
theorem dX3_becomeAs_18 : decode cX3_becomeAs 18 = .ok (.getfield 16, 3) := by decide +kernel
theorem dX3_becomeAs_21 : decode cX3_becomeAs 21 = .ok (.putfield 16, 3) := by decide +kernel
theorem dX3_becomeAs_24 : decode cX3_becomeAs 24 = .ok (.aload_n 0, 1) := by decide +kernel
theorem dX3_becomeAs_25 : decode cX3_becomeAs 25 = .ok (.aload_n 1, 1) := by decide +kernel
theorem dX3_becomeAs_26 : decode cX3_becomeAs 26 = .ok (.getfield 20, 3) := by decide +kernel
theorem dX3_becomeAs_29 : decode cX3_becomeAs 29 = .ok (.putfield 20, 3) := by decide +kernel
theorem dX3_becomeAs_32 : decode cX3_becomeAs 32 = .ok (.aload_n 0, 1) := by decide +kernel
theorem dX3_becomeAs_33 : decode cX3_becomeAs 33 = .ok (.aload_n 1, 1) := by decide +kernel
theorem dX3_becomeAs_34 : decode cX3_becomeAs 34 = .ok (.getfield 23, 3) := by decide +kernel
theorem dX3_becomeAs_37 : decode cX3_becomeAs 37 = .ok (.putfield 23, 3) := by decide +kernel
theorem dX3_becomeAs_40 : decode cX3_becomeAs 40 = .ok (.return_, 1) := by decide +kernel
theorem dX4_init_0 : decode cX4_init 0 = .ok (.aload_n 0, 1) := by decide +kernel
theorem dX4_init_1 : decode cX4_init 1 = .ok (.invokespecial 1, 3) := by decide +kernel
theorem dX4_init_4 : decode cX4_init 4 = .ok (.aload_n 0, 1) := by decide +kernel
theorem dX4_init_5 : decode cX4_init 5 = .ok (.iconst 0, 1) := by decide +kernel
theorem dX4_init_6 : decode cX4_init 6 = .ok (.putfield 7, 3) := by decide +kernel
theorem dX4_init_9 : decode cX4_init 9 = .ok (.aload_n 0, 1) := by decide +kernel
theorem dX4_init_10 : decode cX4_init 10 = .ok (.iconst 0, 1) := by decide +kernel
theorem dX4_init_11 : decode cX4_init 11 = .ok (.putfield 13, 3) := by decide +kernel
theorem dX4_init_14 : decode cX4_init 14 = .ok (.aload_n 0, 1) := by decide +kernel
theorem dX4_init_15 : decode cX4_init 15 = .ok (.iconst 0, 1) := by decide +kernel
theorem dX4_init_16 : decode cX4_init 16 = .ok (.putfield 16, 3) := by decide +kernel
theorem dX4_init_19 : decode cX4_init 19 = .ok (.aload_n 0, 1) := by decide +kernel
theorem dX4_init_20 : decode cX4_init 20 = .ok (.iconst 0, 1) := by decide +kernel
theorem dX4_init_21 : decode cX4_init 21 = .ok (.putfield 19, 3) := by decide +kernel
theorem dX4_init_24 : decode cX4_init 24 = .ok (.return_, 1) := by decide +kernel
theorem dX4_clear_0 : decode cX4_clear 0 = .ok (.aload_n 0, 1) := by decide +kernel
theorem dX4_clear_1 : decode cX4_clear 1 = .ok (.iconst 0, 1) := by decide +kernel
theorem dX4_clear_2 : decode cX4_clear 2 = .ok (.putfield 7, 3) := by decide +kernel
theorem dX4_clear_5 : decode cX4_clear 5 = .ok (.aload_n 0, 1) := by decide +kernel
theorem dX4_clear_6 : decode cX4_clear 6 = .ok (.iconst 0, 1) := by decide +kernel
theorem dX4_clear_7 : decode cX4_clear 7 = .ok (.putfield 13, 3) := by decide +kernel
theorem dX4_clear_10 : decode cX4_clear 10 = .ok (.aload_n 0, 1) := by decide +kernel
theorem dX4_clear_11 : decode cX4_clear 11 = .ok (.iconst 0, 1) := by decide +kernel
theorem dX4_clear_12 : decode cX4_clear 12 = .ok (.putfield 16, 3) := by decide +kernel
theorem dX4_clear_15 : decode cX4_clear 15 = .ok (.aload_n 0, 1) := by decide +kernel
theorem dX4_clear_16 : decode cX4_clear 16 = .ok (.iconst 0, 1) := by decide +kernel
theorem dX4_clear_17 : decode cX4_clear 17 = .ok (.putfield 19, 3) := by decide +kernel
theorem dX4_clear_20 : decode cX4_clear 20 = .ok (.return_, 1) := by decide +kernel
theorem dX4_addAll_0 : decode cX4_addAll 0 = .ok (.aload_n 0, 1) := by decide +kernel
theorem dX4_addAll_1 : decode cX4_addAll 1 = .ok (.dup, 1) := by decide +kernel
theorem dX4_addAll_2 : decode cX4_addAll 2 = .ok (.getfield 7, 3) := by decide +kernel
theorem dX4_addAll_5 : decode cX4_addAll 5 = .ok (.aload_n 1, 1) := by decide +kernel
theorem dX4_addAll_6 : decode cX4_addAll 6 = .ok (.getfield 7, 3) := by decide +kernel
theorem dX4_addAll_9 : decode cX4_addAll 9 = .ok (.iadd, 1) := by decide +kernel
theorem dX4_addAll_10 : decode cX4_addAll 10 = .ok (.putfield 7, 3) := by decide +kernel
theorem dX4_addAll_13 : decode cX4_addAll 13 = .ok (.aload_n 0, 1) := by decide +kernel
theorem dX4_addAll_14 : decode cX4_addAll 14 = .ok (.dup, 1) := by decide +kernel
theorem dX4_addAll_15 : decode cX4_addAll 15 = .ok (.getfield 13, 3) := by decide +kernel
theorem dX4_addAll_18 : decode cX4_addAll 18 = .ok (.aload_n 1, 1) := by decide +kernel
theorem dX4_addAll_19 : decode cX4_addAll 19 = .ok (.getfield 13, 3) := by decide +kernel
theorem dX4_addAll_22 : decode cX4_addAll 22 = .ok (.iadd, 1) := by decide +kernel
theorem dX4_addAll_23 : decode cX4_addAll 23 = .ok (.putfield 13, 3) := by decide +kernel
theorem dX4_addAll_26 : decode cX4_addAll 26 = .ok (.aload_n 0, 1) := by decide +kernel
theorem dX4_addAll_27 : decode cX4_addAll 27 = .ok (.dup, 1) := by decide +kernel
theorem dX4_addAll_28 : decode cX4_addAll 28 = .ok (.getfield 16, 3) := by decide +kernel
theorem dX4_addAll_31 : decode cX4_addAll 31 = .ok (.aload_n 1, 1) := by decide +kernel
theorem dX4_addAll_32 : decode cX4_addAll 32 = .ok (.getfield 16, 3) := by decide +kernel
theorem dX4_addAll_35 : decode cX4_addAll 35 = .ok (.iadd, 1) := by decide +kernel
theorem dX4_addAll_36 : decode cX4_addAll 36 = .ok (.putfield 16, 3) := by decide +kernel
theorem dX4_addAll_39 : decode cX4_addAll 39 = .ok (.aload_n 0, 1) := by decide +kernel
theorem dX4_addAll_40 : decode cX4_addAll 40 = .ok (.dup, 1) := by decide +kernel
theorem dX4_addAll_41 : decode cX4_addAll 41 = .ok (.getfield 19, 3) := by decide +kernel
theorem dX4_addAll_44 : decode cX4_addAll 44 = .ok (.aload_n 1, 1) := by decide +kernel
theorem dX4_addAll_45 : decode cX4_addAll 45 = .ok (.getfield 19, 3) := by decide +kernel
theorem dX4_addAll_48 : decode cX4_addAll 48 = .ok (.iadd, 1) := by decide +kernel
theorem dX4_addAll_49 : decode cX4_addAll 49 = .ok (.putfield 19, 3) := by decide +kernel
theorem dX4_addAll_52 : decode cX4_addAll 52 = .ok (.return_, 1) := by decide +kernel
theorem dX5_init_0 : decode cX5_init 0 = .ok (.aload_n 0, 1) := by decide +kernel
theorem dX5_init_1 : decode cX5_init 1 = .ok (.invokespecial 3, 3) := by decide +kernel
theorem dX5_init_4 : decode cX5_init 4 = .ok (.aload_n 0, 1) := by decide +kernel
theorem dX5_init_5 : decode cX5_init 5 = .ok (.new 9, 3) := by decide +kernel
theorem dX5_init_8 : decode cX5_init 8 = .ok (.dup, 1) := by decide +kernel
theorem dX5_init_9 : decode cX5_init 9 = .ok (.invokespecial 11, 3) := by decide +kernel
theorem dX5_init_12 : decode cX5_init 12 = .ok (.putfield 12, 3) := by decide +kernel
theorem dX5_init_15 : decode cX5_init 15 = .ok (.aload_n 0, 1) := by decide +kernel
theorem dX5_init_16 : decode cX5_init 16 = .ok (.new 9, 3) := by decide +kernel
theorem dX5_init_19 : decode cX5_init 19 = .ok (.dup, 1) := by decide +kernel
theorem dX5_init_20 : decode cX5_init 20 = .ok (.invokespecial 11, 3) := by decide +kernel
theorem dX5_init_23 : decode cX5_init 23 = .ok (.putfield 18, 3) := by decide +kernel
theorem dX5_init_26 : decode cX5_init 26 = .ok (.aload_n 0, 1) := by decide +kernel
theorem dX5_init_27 : decode cX5_init 27 = .ok (.iconst 0, 1) := by decide +kernel
theorem dX5_init_28 : decode cX5_init 28 = .ok (.putfield 21, 3) := by decide +kernel
theorem dX5_init_31 : decode cX5_init 31 = .ok (.aload_n 0, 1) := by decide +kernel
theorem dX5_init_32 : decode cX5_init 32 = .ok (.bipush 100, 2) := by decide +kernel
theorem dX5_init_34 : decode cX5_init 34 = .ok (.putfield 25, 3) := by decide +kernel
theorem dX5_init_37 : decode cX5_init 37 = .ok (.aload_n 0, 1) := by decide +kernel
theorem dX5_init_38 : decode cX5_init 38 = .ok (.bipush 50, 2) := by decide +kernel
theorem dX5_init_40 : decode cX5_init 40 = .ok (.putfield 28, 3) := by decide +kernel
theorem dX5_init_43 : decode cX5_init 43 = .ok (.aload_n 0, 1) := by decide +kernel
theorem dX5_init_44 : decode cX5_init 44 = .ok (.iconst 0, 1) := by decide +kernel
theorem dX5_init_45 : decode cX5_init 45 = .ok (.putfield 31, 3) := by decide +kernel
theorem dX5_init_48 : decode cX5_init 48 = .ok (.aload_n 0, 1) := by decide +kernel
theorem dX5_init_49 : decode cX5_init 49 = .ok (.iconst (-1), 1) := by decide +kernel
theorem dX5_init_50 : decode cX5_init 50 = .ok (.putfield 34, 3) := by decide +kernel
theorem dX5_init_53 : decode cX5_init 53 = .ok (.aload_n 0, 1) := by decide +kernel
theorem dX5_init_54 : decode cX5_init 54 = .ok (.aconst_null, 1) := by decide +kernel
theorem dX5_init_55 : decode cX5_init 55 = .ok (.putfield 37, 3) := by decide +kernel
theorem dX5_init_58 : decode cX5_init 58 = .ok (.aload_n 0, 1) := by decide +kernel
theorem dX5_init_59 : decode cX5_init 59 = .ok (.iload_n 1, 1) := by decide +kernel
theorem dX5_init_60 : decode cX5_init 60 = .ok (.putfield 41, 3) := by decide +kernel
theorem dX5_init_63 : decode cX5_init 63 = .ok (.aload_n 0, 1) := by decide +kernel
theorem dX5_init_64 : decode cX5_init 64 = .ok (.aload_n 2, 1) := by decide +kernel
theorem dX5_init_65 : decode cX5_init 65 = .ok (.putfield 44, 3) := by decide +kernel
theorem dX5_init_68 : decode cX5_init 68 = .ok (.return_, 1) := by decide +kernel
theorem dX5_roomIf_0 : decode cX5_roomIf 0 = .ok (.iload_n 1, 1) := by decide +kernel
theorem dX5_roomIf_1 : decode cX5_roomIf 1 = .ok (.ifCond .eq 7, 3) := by decide +kernel
theorem dX5_roomIf_4 : decode cX5_roomIf 4 = .ok (.iconst 0, 1) := by decide +kernel
theorem dX5_roomIf_5 : decode cX5_roomIf 5 = .ok (.goto 12, 3) := by decide +kernel
theorem dX5_roomIf_8 : decode cX5_roomIf 8 = .ok (.aload_n 0, 1) := by decide +kernel
theorem dX5_roomIf_9 : decode cX5_roomIf 9 = .ok (.getfield 25, 3) := by decide +kernel
theorem dX5_roomIf_12 : decode cX5_roomIf 12 = .ok (.aload_n 0, 1) := by decide +kernel
theorem dX5_roomIf_13 : decode cX5_roomIf 13 = .ok (.getfield 31, 3) := by decide +kernel
theorem dX5_roomIf_16 : decode cX5_roomIf 16 = .ok (.isub, 1) := by decide +kernel
theorem dX5_roomIf_17 : decode cX5_roomIf 17 = .ok (.ireturn, 1) := by decide +kernel
theorem dX5_isBadYearWith_0 : decode cX5_isBadYearWith 0 = .ok (.iload_n 1, 1) := by decide +kernel
theorem dX5_isBadYearWith_1 : decode cX5_isBadYearWith 1 = .ok (.aload_n 0, 1) := by decide +kernel
theorem dX5_isBadYearWith_2 : decode cX5_isBadYearWith 2 = .ok (.getfield 25, 3) := by decide +kernel
theorem dX5_isBadYearWith_5 : decode cX5_isBadYearWith 5 = .ok (.iconst 2, 1) := by decide +kernel
theorem dX5_isBadYearWith_6 : decode cX5_isBadYearWith 6 = .ok (.idiv, 1) := by decide +kernel
theorem dX5_isBadYearWith_7 : decode cX5_isBadYearWith 7 = .ok (.if_icmp .ge 7, 3) := by decide +kernel
theorem dX5_isBadYearWith_10 : decode cX5_isBadYearWith 10 = .ok (.iconst 1, 1) := by decide +kernel
theorem dX5_isBadYearWith_11 : decode cX5_isBadYearWith 11 = .ok (.goto 4, 3) := by decide +kernel
theorem dX5_isBadYearWith_14 : decode cX5_isBadYearWith 14 = .ok (.iconst 0, 1) := by decide +kernel
theorem dX5_isBadYearWith_15 : decode cX5_isBadYearWith 15 = .ok (.ireturn, 1) := by decide +kernel
theorem dX5_putInOrder_0 : decode cX5_putInOrder 0 = .ok (.aconst_null, 1) := by decide +kernel
theorem dX5_putInOrder_1 : decode cX5_putInOrder 1 = .ok (.astore_n 3, 1) := by decide +kernel
theorem dX5_putInOrder_2 : decode cX5_putInOrder 2 = .ok (.aload_n 0, 1) := by decide +kernel
theorem dX5_putInOrder_3 : decode cX5_putInOrder 3 = .ok (.getfield 37, 3) := by decide +kernel
theorem dX5_putInOrder_6 : decode cX5_putInOrder 6 = .ok (.astore 4, 2) := by decide +kernel
theorem dX5_putInOrder_8 : decode cX5_putInOrder 8 = .ok (.aload 4, 2) := by decide +kernel
theorem dX5_putInOrder_10 : decode cX5_putInOrder 10 = .ok (.ifnull 26, 3) := by decide +kernel
theorem dX5_putInOrder_13 : decode cX5_putInOrder 13 = .ok (.aload_n 2, 1) := by decide +kernel
theorem dX5_putInOrder_14 : decode cX5_putInOrder 14 = .ok (.aload_n 1, 1) := by decide +kernel
theorem dX5_putInOrder_15 : decode cX5_putInOrder 15 = .ok (.aload 4, 2) := by decide +kernel
theorem dX5_putInOrder_17 : decode cX5_putInOrder 17 = .ok (.invokevirtual 48, 3) := by decide +kernel
theorem dX5_putInOrder_20 : decode cX5_putInOrder 20 = .ok (.ifCond .ne 16, 3) := by decide +kernel
theorem dX5_putInOrder_23 : decode cX5_putInOrder 23 = .ok (.aload 4, 2) := by decide +kernel
theorem dX5_putInOrder_25 : decode cX5_putInOrder 25 = .ok (.astore_n 3, 1) := by decide +kernel
theorem dX5_putInOrder_26 : decode cX5_putInOrder 26 = .ok (.aload 4, 2) := by decide +kernel
theorem dX5_putInOrder_28 : decode cX5_putInOrder 28 = .ok (.getfield 54, 3) := by decide +kernel
theorem dX5_putInOrder_31 : decode cX5_putInOrder 31 = .ok (.astore 4, 2) := by decide +kernel
theorem dX5_putInOrder_33 : decode cX5_putInOrder 33 = .ok (.goto (-25), 3) := by decide +kernel
theorem dX5_putInOrder_36 : decode cX5_putInOrder 36 = .ok (.aload_n 1, 1) := by decide +kernel
theorem dX5_putInOrder_37 : decode cX5_putInOrder 37 = .ok (.aload 4, 2) := by decide +kernel
theorem dX5_putInOrder_39 : decode cX5_putInOrder 39 = .ok (.putfield 54, 3) := by decide +kernel
theorem dX5_putInOrder_42 : decode cX5_putInOrder 42 = .ok (.aload_n 3, 1) := by decide +kernel
theorem dX5_putInOrder_43 : decode cX5_putInOrder 43 = .ok (.ifnonnull 11, 3) := by decide +kernel
theorem dX5_putInOrder_46 : decode cX5_putInOrder 46 = .ok (.aload_n 0, 1) := by decide +kernel
theorem dX5_putInOrder_47 : decode cX5_putInOrder 47 = .ok (.aload_n 1, 1) := by decide +kernel
theorem dX5_putInOrder_48 : decode cX5_putInOrder 48 = .ok (.putfield 37, 3) := by decide +kernel
theorem dX5_putInOrder_51 : decode cX5_putInOrder 51 = .ok (.goto 8, 3) := by decide +kernel
theorem dX5_putInOrder_54 : decode cX5_putInOrder 54 = .ok (.aload_n 3, 1) := by decide +kernel
theorem dX5_putInOrder_55 : decode cX5_putInOrder 55 = .ok (.aload_n 1, 1) := by decide +kernel
theorem dX5_putInOrder_56 : decode cX5_putInOrder 56 = .ok (.putfield 54, 3) := by decide +kernel
theorem dX5_putInOrder_59 : decode cX5_putInOrder 59 = .ok (.return_, 1) := by decide +kernel
theorem dX6_init_0 : decode cX6_init 0 = .ok (.aload_n 0, 1) := by decide +kernel
theorem dX6_init_1 : decode cX6_init 1 = .ok (.invokespecial 3, 3) := by decide +kernel
theorem dX6_init_4 : decode cX6_init 4 = .ok (.aload_n 0, 1) := by decide +kernel
theorem dX6_init_5 : decode cX6_init 5 = .ok (.sipush 300, 3) := by decide +kernel
theorem dX6_init_8 : decode cX6_init 8 = .ok (.newarray .byte, 2) := by decide +kernel
theorem dX6_init_10 : decode cX6_init 10 = .ok (.putfield 9, 3) := by decide +kernel
theorem dX6_init_13 : decode cX6_init 13 = .ok (.aload_n 0, 1) := by decide +kernel
theorem dX6_init_14 : decode cX6_init 14 = .ok (.iconst 0, 1) := by decide +kernel
theorem dX6_init_15 : decode cX6_init 15 = .ok (.putfield 15, 3) := by decide +kernel
theorem dX6_init_18 : decode cX6_init 18 = .ok (.aload_n 0, 1) := by decide +kernel
theorem dX6_init_19 : decode cX6_init 19 = .ok (.iconst 0, 1) := by decide +kernel
theorem dX6_init_20 : decode cX6_init 20 = .ok (.putfield 19, 3) := by decide +kernel
theorem dX6_init_23 : decode cX6_init 23 = .ok (.aload_n 0, 1) := by decide +kernel
theorem dX6_init_24 : decode cX6_init 24 = .ok (.iconst 0, 1) := by decide +kernel
theorem dX6_init_25 : decode cX6_init 25 = .ok (.putfield 22, 3) := by decide +kernel
theorem dX6_init_28 : decode cX6_init 28 = .ok (.aload_n 0, 1) := by decide +kernel
theorem dX6_init_29 : decode cX6_init 29 = .ok (.iconst 0, 1) := by decide +kernel
theorem dX6_init_30 : decode cX6_init 30 = .ok (.putfield 25, 3) := by decide +kernel
theorem dX6_init_33 : decode cX6_init 33 = .ok (.aload_n 0, 1) := by decide +kernel
theorem dX6_init_34 : decode cX6_init 34 = .ok (.iconst 0, 1) := by decide +kernel
theorem dX6_init_35 : decode cX6_init 35 = .ok (.putfield 28, 3) := by decide +kernel
theorem dX6_init_38 : decode cX6_init 38 = .ok (.return_, 1) := by decide +kernel
theorem dX6_putFour_0 : decode cX6_putFour 0 = .ok (.aload_n 0, 1) := by decide +kernel
theorem dX6_putFour_1 : decode cX6_putFour 1 = .ok (.iload_n 1, 1) := by decide +kernel
theorem dX6_putFour_2 : decode cX6_putFour 2 = .ok (.bipush 24, 2) := by decide +kernel
theorem dX6_putFour_4 : decode cX6_putFour 4 = .ok (.ishr, 1) := by decide +kernel
theorem dX6_putFour_5 : decode cX6_putFour 5 = .ok (.invokevirtual 31, 3) := by decide +kernel
theorem dX6_putFour_8 : decode cX6_putFour 8 = .ok (.aload_n 0, 1) := by decide +kernel
theorem dX6_putFour_9 : decode cX6_putFour 9 = .ok (.iload_n 1, 1) := by decide +kernel
theorem dX6_putFour_10 : decode cX6_putFour 10 = .ok (.bipush 16, 2) := by decide +kernel
theorem dX6_putFour_12 : decode cX6_putFour 12 = .ok (.ishr, 1) := by decide +kernel
theorem dX6_putFour_13 : decode cX6_putFour 13 = .ok (.invokevirtual 31, 3) := by decide +kernel
theorem dX6_putFour_16 : decode cX6_putFour 16 = .ok (.aload_n 0, 1) := by decide +kernel
theorem dX6_putFour_17 : decode cX6_putFour 17 = .ok (.iload_n 1, 1) := by decide +kernel
theorem dX6_putFour_18 : decode cX6_putFour 18 = .ok (.bipush 8, 2) := by decide +kernel
theorem dX6_putFour_20 : decode cX6_putFour 20 = .ok (.ishr, 1) := by decide +kernel
theorem dX6_putFour_21 : decode cX6_putFour 21 = .ok (.invokevirtual 31, 3) := by decide +kernel
theorem dX6_putFour_24 : decode cX6_putFour 24 = .ok (.aload_n 0, 1) := by decide +kernel
theorem dX6_putFour_25 : decode cX6_putFour 25 = .ok (.iload_n 1, 1) := by decide +kernel
theorem dX6_putFour_26 : decode cX6_putFour 26 = .ok (.invokevirtual 31, 3) := by decide +kernel
theorem dX6_putFour_29 : decode cX6_putFour 29 = .ok (.return_, 1) := by decide +kernel
theorem dX6_putByte_0 : decode cX6_putByte 0 = .ok (.aload_n 0, 1) := by decide +kernel
theorem dX6_putByte_1 : decode cX6_putByte 1 = .ok (.getfield 15, 3) := by decide +kernel
theorem dX6_putByte_4 : decode cX6_putByte 4 = .ok (.ifCond .lt 36, 3) := by decide +kernel
theorem dX6_putByte_7 : decode cX6_putByte 7 = .ok (.aload_n 0, 1) := by decide +kernel
theorem dX6_putByte_8 : decode cX6_putByte 8 = .ok (.getfield 15, 3) := by decide +kernel
theorem dX6_putByte_11 : decode cX6_putByte 11 = .ok (.aload_n 0, 1) := by decide +kernel
theorem dX6_putByte_12 : decode cX6_putByte 12 = .ok (.getfield 9, 3) := by decide +kernel
theorem dX6_putByte_15 : decode cX6_putByte 15 = .ok (.arraylength, 1) := by decide +kernel
theorem dX6_putByte_16 : decode cX6_putByte 16 = .ok (.if_icmp .ge 24, 3) := by decide +kernel
theorem dX6_putByte_19 : decode cX6_putByte 19 = .ok (.aload_n 0, 1) := by decide +kernel
theorem dX6_putByte_20 : decode cX6_putByte 20 = .ok (.getfield 9, 3) := by decide +kernel
theorem dX6_putByte_23 : decode cX6_putByte 23 = .ok (.aload_n 0, 1) := by decide +kernel
theorem dX6_putByte_24 : decode cX6_putByte 24 = .ok (.getfield 15, 3) := by decide +kernel
theorem dX6_putByte_27 : decode cX6_putByte 27 = .ok (.iload_n 1, 1) := by decide +kernel
theorem dX6_putByte_28 : decode cX6_putByte 28 = .ok (.i2b, 1) := by decide +kernel
theorem dX6_putByte_29 : decode cX6_putByte 29 = .ok (.bastore, 1) := by decide +kernel
theorem dX6_putByte_30 : decode cX6_putByte 30 = .ok (.aload_n 0, 1) := by decide +kernel
theorem dX6_putByte_31 : decode cX6_putByte 31 = .ok (.dup, 1) := by decide +kernel
theorem dX6_putByte_32 : decode cX6_putByte 32 = .ok (.getfield 15, 3) := by decide +kernel
theorem dX6_putByte_35 : decode cX6_putByte 35 = .ok (.iconst 1, 1) := by decide +kernel
theorem dX6_putByte_36 : decode cX6_putByte 36 = .ok (.iadd, 1) := by decide +kernel
theorem dX6_putByte_37 : decode cX6_putByte 37 = .ok (.putfield 15, 3) := by decide +kernel
theorem dX6_putByte_40 : decode cX6_putByte 40 = .ok (.return_, 1) := by decide +kernel
theorem dX6_faultReading_0 : decode cX6_faultReading 0 = .ok (.aload_n 0, 1) := by decide +kernel
theorem dX6_faultReading_1 : decode cX6_faultReading 1 = .ok (.iload_n 2, 1) := by decide +kernel
theorem dX6_faultReading_2 : decode cX6_faultReading 2 = .ok (.putfield 19, 3) := by decide +kernel
theorem dX6_faultReading_5 : decode cX6_faultReading 5 = .ok (.aload_n 0, 1) := by decide +kernel
theorem dX6_faultReading_6 : decode cX6_faultReading 6 = .ok (.iconst 0, 1) := by decide +kernel
theorem dX6_faultReading_7 : decode cX6_faultReading 7 = .ok (.putfield 28, 3) := by decide +kernel
theorem dX6_faultReading_10 : decode cX6_faultReading 10 = .ok (.aload_n 1, 1) := by decide +kernel
theorem dX6_faultReading_11 : decode cX6_faultReading 11 = .ok (.invokevirtual 35, 3) := by decide +kernel
theorem dX6_faultReading_14 : decode cX6_faultReading 14 = .ok (.aload_n 0, 1) := by decide +kernel
theorem dX6_faultReading_15 : decode cX6_faultReading 15 = .ok (.invokevirtual 40, 3) := by decide +kernel
theorem dX6_faultReading_18 : decode cX6_faultReading 18 = .ok (.aload_n 0, 1) := by decide +kernel
theorem dX6_faultReading_19 : decode cX6_faultReading 19 = .ok (.getfield 22, 3) := by decide +kernel
theorem dX6_faultReading_22 : decode cX6_faultReading 22 = .ok (.ifCond .eq 42, 3) := by decide +kernel
theorem dX6_faultReading_25 : decode cX6_faultReading 25 = .ok (.aload_n 1, 1) := by decide +kernel
theorem dX6_faultReading_26 : decode cX6_faultReading 26 = .ok (.getfield 43, 3) := by decide +kernel
theorem dX6_faultReading_29 : decode cX6_faultReading 29 = .ok (.bipush 10, 2) := by decide +kernel
theorem dX6_faultReading_31 : decode cX6_faultReading 31 = .ok (.if_icmp .ge 33, 3) := by decide +kernel
theorem dX6_faultReading_34 : decode cX6_faultReading 34 = .ok (.aload_n 0, 1) := by decide +kernel
theorem dX6_faultReading_35 : decode cX6_faultReading 35 = .ok (.aload_n 1, 1) := by decide +kernel
theorem dX6_faultReading_36 : decode cX6_faultReading 36 = .ok (.invokevirtual 46, 3) := by decide +kernel
theorem dX6_faultReading_39 : decode cX6_faultReading 39 = .ok (.ifCond .ne 8, 3) := by decide +kernel
theorem dX6_faultReading_42 : decode cX6_faultReading 42 = .ok (.aload_n 0, 1) := by decide +kernel
theorem dX6_faultReading_43 : decode cX6_faultReading 43 = .ok (.getfield 25, 3) := by decide +kernel
theorem dX6_faultReading_46 : decode cX6_faultReading 46 = .ok (.ireturn, 1) := by decide +kernel
theorem dX6_faultReading_47 : decode cX6_faultReading 47 = .ok (.aload_n 1, 1) := by decide +kernel
theorem dX6_faultReading_48 : decode cX6_faultReading 48 = .ok (.dup, 1) := by decide +kernel
theorem dX6_faultReading_49 : decode cX6_faultReading 49 = .ok (.getfield 43, 3) := by decide +kernel
theorem dX6_faultReading_52 : decode cX6_faultReading 52 = .ok (.iconst 1, 1) := by decide +kernel
theorem dX6_faultReading_53 : decode cX6_faultReading 53 = .ok (.iadd, 1) := by decide +kernel
theorem dX6_faultReading_54 : decode cX6_faultReading 54 = .ok (.putfield 43, 3) := by decide +kernel
theorem dX6_faultReading_57 : decode cX6_faultReading 57 = .ok (.aload_n 0, 1) := by decide +kernel
theorem dX6_faultReading_58 : decode cX6_faultReading 58 = .ok (.invokevirtual 40, 3) := by decide +kernel
theorem dX6_faultReading_61 : decode cX6_faultReading 61 = .ok (.goto (-43), 3) := by decide +kernel
theorem dX6_faultReading_64 : decode cX6_faultReading 64 = .ok (.aload_n 0, 1) := by decide +kernel
theorem dX6_faultReading_65 : decode cX6_faultReading 65 = .ok (.getfield 22, 3) := by decide +kernel
theorem dX6_faultReading_68 : decode cX6_faultReading 68 = .ok (.ifCond .ne 7, 3) := by decide +kernel
theorem dX6_faultReading_71 : decode cX6_faultReading 71 = .ok (.iconst (-1), 1) := by decide +kernel
theorem dX6_faultReading_72 : decode cX6_faultReading 72 = .ok (.goto 7, 3) := by decide +kernel
theorem dX6_faultReading_75 : decode cX6_faultReading 75 = .ok (.aload_n 0, 1) := by decide +kernel
theorem dX6_faultReading_76 : decode cX6_faultReading 76 = .ok (.getfield 25, 3) := by decide +kernel
theorem dX6_faultReading_79 : decode cX6_faultReading 79 = .ok (.ireturn, 1) := by decide +kernel
theorem dX6_readStatement_0 : decode cX6_readStatement 0 = .ok (.aload_n 0, 1) := by decide +kernel
theorem dX6_readStatement_1 : decode cX6_readStatement 1 = .ok (.ldc 50, 2) := by decide +kernel
theorem dX6_readStatement_3 : decode cX6_readStatement 3 = .ok (.invokevirtual 52, 3) := by decide +kernel
theorem dX6_readStatement_6 : decode cX6_readStatement 6 = .ok (.ifCond .eq 16, 3) := by decide +kernel
theorem dX6_readStatement_9 : decode cX6_readStatement 9 = .ok (.aload_n 0, 1) := by decide +kernel
theorem dX6_readStatement_10 : decode cX6_readStatement 10 = .ok (.invokevirtual 40, 3) := by decide +kernel
theorem dX6_readStatement_13 : decode cX6_readStatement 13 = .ok (.aload_n 0, 1) := by decide +kernel
theorem dX6_readStatement_14 : decode cX6_readStatement 14 = .ok (.aload_n 1, 1) := by decide +kernel
theorem dX6_readStatement_15 : decode cX6_readStatement 15 = .ok (.invokevirtual 56, 3) := by decide +kernel
theorem dX6_readStatement_18 : decode cX6_readStatement 18 = .ok (.istore_n 2, 1) := by decide +kernel
theorem dX6_readStatement_19 : decode cX6_readStatement 19 = .ok (.goto 106, 3) := by decide +kernel
theorem dX6_readStatement_22 : decode cX6_readStatement 22 = .ok (.aload_n 0, 1) := by decide +kernel
theorem dX6_readStatement_23 : decode cX6_readStatement 23 = .ok (.ldc 59, 2) := by decide +kernel
theorem dX6_readStatement_25 : decode cX6_readStatement 25 = .ok (.invokevirtual 52, 3) := by decide +kernel
theorem dX6_readStatement_28 : decode cX6_readStatement 28 = .ok (.ifCond .eq 32, 3) := by decide +kernel
theorem dX6_readStatement_31 : decode cX6_readStatement 31 = .ok (.aload_n 0, 1) := by decide +kernel
theorem dX6_readStatement_32 : decode cX6_readStatement 32 = .ok (.invokevirtual 40, 3) := by decide +kernel
theorem dX6_readStatement_35 : decode cX6_readStatement 35 = .ok (.aload_n 1, 1) := by decide +kernel
theorem dX6_readStatement_36 : decode cX6_readStatement 36 = .ok (.aload_n 0, 1) := by decide +kernel
theorem dX6_readStatement_37 : decode cX6_readStatement 37 = .ok (.invokevirtual 61, 3) := by decide +kernel
theorem dX6_readStatement_40 : decode cX6_readStatement 40 = .ok (.putfield 65, 3) := by decide +kernel
theorem dX6_readStatement_43 : decode cX6_readStatement 43 = .ok (.aload_n 1, 1) := by decide +kernel
theorem dX6_readStatement_44 : decode cX6_readStatement 44 = .ok (.getfield 65, 3) := by decide +kernel
theorem dX6_readStatement_47 : decode cX6_readStatement 47 = .ok (.iconst (-1), 1) := by decide +kernel
theorem dX6_readStatement_48 : decode cX6_readStatement 48 = .ok (.if_icmp .eq 7, 3) := by decide +kernel
theorem dX6_readStatement_51 : decode cX6_readStatement 51 = .ok (.iconst 1, 1) := by decide +kernel
theorem dX6_readStatement_52 : decode cX6_readStatement 52 = .ok (.goto 4, 3) := by decide +kernel
theorem dX6_readStatement_55 : decode cX6_readStatement 55 = .ok (.iconst 0, 1) := by decide +kernel
theorem dX6_readStatement_56 : decode cX6_readStatement 56 = .ok (.istore_n 2, 1) := by decide +kernel
theorem dX6_readStatement_57 : decode cX6_readStatement 57 = .ok (.goto 68, 3) := by decide +kernel
theorem dX6_readStatement_60 : decode cX6_readStatement 60 = .ok (.aload_n 0, 1) := by decide +kernel
theorem dX6_readStatement_61 : decode cX6_readStatement 61 = .ok (.ldc 67, 2) := by decide +kernel
theorem dX6_readStatement_63 : decode cX6_readStatement 63 = .ok (.invokevirtual 52, 3) := by decide +kernel
theorem dX6_readStatement_66 : decode cX6_readStatement 66 = .ok (.ifCond .eq 32, 3) := by decide +kernel
theorem dX6_readStatement_69 : decode cX6_readStatement 69 = .ok (.aload_n 0, 1) := by decide +kernel
theorem dX6_readStatement_70 : decode cX6_readStatement 70 = .ok (.invokevirtual 40, 3) := by decide +kernel
theorem dX6_readStatement_73 : decode cX6_readStatement 73 = .ok (.aload_n 1, 1) := by decide +kernel
theorem dX6_readStatement_74 : decode cX6_readStatement 74 = .ok (.aload_n 0, 1) := by decide +kernel
theorem dX6_readStatement_75 : decode cX6_readStatement 75 = .ok (.invokevirtual 61, 3) := by decide +kernel
theorem dX6_readStatement_78 : decode cX6_readStatement 78 = .ok (.putfield 69, 3) := by decide +kernel
theorem dX6_readStatement_81 : decode cX6_readStatement 81 = .ok (.aload_n 1, 1) := by decide +kernel
theorem dX6_readStatement_82 : decode cX6_readStatement 82 = .ok (.getfield 69, 3) := by decide +kernel
theorem dX6_readStatement_85 : decode cX6_readStatement 85 = .ok (.iconst (-1), 1) := by decide +kernel
theorem dX6_readStatement_86 : decode cX6_readStatement 86 = .ok (.if_icmp .eq 7, 3) := by decide +kernel
theorem dX6_readStatement_89 : decode cX6_readStatement 89 = .ok (.iconst 1, 1) := by decide +kernel
theorem dX6_readStatement_90 : decode cX6_readStatement 90 = .ok (.goto 4, 3) := by decide +kernel
theorem dX6_readStatement_93 : decode cX6_readStatement 93 = .ok (.iconst 0, 1) := by decide +kernel
theorem dX6_readStatement_94 : decode cX6_readStatement 94 = .ok (.istore_n 2, 1) := by decide +kernel
theorem dX6_readStatement_95 : decode cX6_readStatement 95 = .ok (.goto 30, 3) := by decide +kernel
theorem dX6_readStatement_98 : decode cX6_readStatement 98 = .ok (.aload_n 0, 1) := by decide +kernel
theorem dX6_readStatement_99 : decode cX6_readStatement 99 = .ok (.ldc 71, 2) := by decide +kernel
theorem dX6_readStatement_101 : decode cX6_readStatement 101 = .ok (.invokevirtual 52, 3) := by decide +kernel
theorem dX6_readStatement_104 : decode cX6_readStatement 104 = .ok (.istore_n 2, 1) := by decide +kernel
theorem dX6_readStatement_105 : decode cX6_readStatement 105 = .ok (.aload_n 1, 1) := by decide +kernel
theorem dX6_readStatement_106 : decode cX6_readStatement 106 = .ok (.aload_n 1, 1) := by decide +kernel
theorem dX6_readStatement_107 : decode cX6_readStatement 107 = .ok (.getfield 73, 3) := by decide +kernel
theorem dX6_readStatement_110 : decode cX6_readStatement 110 = .ok (.ifCond .ne 7, 3) := by decide +kernel
theorem dX6_readStatement_113 : decode cX6_readStatement 113 = .ok (.iload_n 2, 1) := by decide +kernel
theorem dX6_readStatement_114 : decode cX6_readStatement 114 = .ok (.ifCond .eq 7, 3) := by decide +kernel
theorem dX6_readStatement_117 : decode cX6_readStatement 117 = .ok (.iconst 1, 1) := by decide +kernel
theorem dX6_readStatement_118 : decode cX6_readStatement 118 = .ok (.goto 4, 3) := by decide +kernel
theorem dX6_readStatement_121 : decode cX6_readStatement 121 = .ok (.iconst 0, 1) := by decide +kernel
theorem dX6_readStatement_122 : decode cX6_readStatement 122 = .ok (.putfield 73, 3) := by decide +kernel
theorem dX6_readStatement_125 : decode cX6_readStatement 125 = .ok (.iload_n 2, 1) := by decide +kernel
theorem dX6_readStatement_126 : decode cX6_readStatement 126 = .ok (.ifCond .ne 5, 3) := by decide +kernel
theorem dX6_readStatement_129 : decode cX6_readStatement 129 = .ok (.iconst 0, 1) := by decide +kernel
theorem dX6_readStatement_130 : decode cX6_readStatement 130 = .ok (.ireturn, 1) := by decide +kernel
theorem dX6_readStatement_131 : decode cX6_readStatement 131 = .ok (.aload_n 0, 1) := by decide +kernel
theorem dX6_readStatement_132 : decode cX6_readStatement 132 = .ok (.invokevirtual 40, 3) := by decide +kernel
theorem dX6_readStatement_135 : decode cX6_readStatement 135 = .ok (.aload_n 0, 1) := by decide +kernel
theorem dX6_readStatement_136 : decode cX6_readStatement 136 = .ok (.getfield 22, 3) := by decide +kernel
theorem dX6_readStatement_139 : decode cX6_readStatement 139 = .ok (.iconst 3, 1) := by decide +kernel
theorem dX6_readStatement_140 : decode cX6_readStatement 140 = .ok (.if_icmp .ne 7, 3) := by decide +kernel
theorem dX6_readStatement_143 : decode cX6_readStatement 143 = .ok (.iconst 1, 1) := by decide +kernel
theorem dX6_readStatement_144 : decode cX6_readStatement 144 = .ok (.goto 4, 3) := by decide +kernel
theorem dX6_readStatement_147 : decode cX6_readStatement 147 = .ok (.iconst 0, 1) := by decide +kernel
theorem dX6_readStatement_148 : decode cX6_readStatement 148 = .ok (.ireturn, 1) := by decide +kernel
theorem dX6_readFirst_0 : decode cX6_readFirst 0 = .ok (.aload_n 0, 1) := by decide +kernel
theorem dX6_readFirst_1 : decode cX6_readFirst 1 = .ok (.ldc 76, 2) := by decide +kernel
theorem dX6_readFirst_3 : decode cX6_readFirst 3 = .ok (.invokevirtual 52, 3) := by decide +kernel
theorem dX6_readFirst_6 : decode cX6_readFirst 6 = .ok (.ifCond .eq 11, 3) := by decide +kernel
theorem dX6_readFirst_9 : decode cX6_readFirst 9 = .ok (.aload_n 1, 1) := by decide +kernel
theorem dX6_readFirst_10 : decode cX6_readFirst 10 = .ok (.iconst 0, 1) := by decide +kernel
theorem dX6_readFirst_11 : decode cX6_readFirst 11 = .ok (.invokevirtual 78, 3) := by decide +kernel
theorem dX6_readFirst_14 : decode cX6_readFirst 14 = .ok (.goto 39, 3) := by decide +kernel
theorem dX6_readFirst_17 : decode cX6_readFirst 17 = .ok (.aload_n 0, 1) := by decide +kernel
theorem dX6_readFirst_18 : decode cX6_readFirst 18 = .ok (.ldc 81, 2) := by decide +kernel
theorem dX6_readFirst_20 : decode cX6_readFirst 20 = .ok (.invokevirtual 52, 3) := by decide +kernel
theorem dX6_readFirst_23 : decode cX6_readFirst 23 = .ok (.ifCond .eq 11, 3) := by decide +kernel
theorem dX6_readFirst_26 : decode cX6_readFirst 26 = .ok (.aload_n 1, 1) := by decide +kernel
theorem dX6_readFirst_27 : decode cX6_readFirst 27 = .ok (.iconst 1, 1) := by decide +kernel
theorem dX6_readFirst_28 : decode cX6_readFirst 28 = .ok (.invokevirtual 78, 3) := by decide +kernel
theorem dX6_readFirst_31 : decode cX6_readFirst 31 = .ok (.goto 22, 3) := by decide +kernel
theorem dX6_readFirst_34 : decode cX6_readFirst 34 = .ok (.aload_n 0, 1) := by decide +kernel
theorem dX6_readFirst_35 : decode cX6_readFirst 35 = .ok (.ldc 59, 2) := by decide +kernel
theorem dX6_readFirst_37 : decode cX6_readFirst 37 = .ok (.invokevirtual 52, 3) := by decide +kernel
theorem dX6_readFirst_40 : decode cX6_readFirst 40 = .ok (.ifCond .eq 11, 3) := by decide +kernel
theorem dX6_readFirst_43 : decode cX6_readFirst 43 = .ok (.aload_n 1, 1) := by decide +kernel
theorem dX6_readFirst_44 : decode cX6_readFirst 44 = .ok (.iconst 2, 1) := by decide +kernel
theorem dX6_readFirst_45 : decode cX6_readFirst 45 = .ok (.invokevirtual 78, 3) := by decide +kernel
theorem dX6_readFirst_48 : decode cX6_readFirst 48 = .ok (.goto 5, 3) := by decide +kernel
theorem dX6_readFirst_51 : decode cX6_readFirst 51 = .ok (.iconst 0, 1) := by decide +kernel
theorem dX6_readFirst_52 : decode cX6_readFirst 52 = .ok (.ireturn, 1) := by decide +kernel
theorem dX6_readFirst_53 : decode cX6_readFirst 53 = .ok (.iconst 1, 1) := by decide +kernel
theorem dX6_readFirst_54 : decode cX6_readFirst 54 = .ok (.ireturn, 1) := by decide +kernel
theorem dX6_isWord_0 : decode cX6_isWord 0 = .ok (.aload_n 0, 1) := by decide +kernel
theorem dX6_isWord_1 : decode cX6_isWord 1 = .ok (.getfield 22, 3) := by decide +kernel
theorem dX6_isWord_4 : decode cX6_isWord 4 = .ok (.iconst 1, 1) := by decide +kernel
theorem dX6_isWord_5 : decode cX6_isWord 5 = .ok (.if_icmp .ne 19, 3) := by decide +kernel
theorem dX6_isWord_8 : decode cX6_isWord 8 = .ok (.aload_n 0, 1) := by decide +kernel
theorem dX6_isWord_9 : decode cX6_isWord 9 = .ok (.getfield 28, 3) := by decide +kernel
theorem dX6_isWord_12 : decode cX6_isWord 12 = .ok (.aload_n 0, 1) := by decide +kernel
theorem dX6_isWord_13 : decode cX6_isWord 13 = .ok (.getfield 25, 3) := by decide +kernel
theorem dX6_isWord_16 : decode cX6_isWord 16 = .ok (.isub, 1) := by decide +kernel
theorem dX6_isWord_17 : decode cX6_isWord 17 = .ok (.aload_n 1, 1) := by decide +kernel
theorem dX6_isWord_18 : decode cX6_isWord 18 = .ok (.invokevirtual 83, 3) := by decide +kernel
theorem dX6_isWord_21 : decode cX6_isWord 21 = .ok (.if_icmp .eq 5, 3) := by decide +kernel
theorem dX6_isWord_24 : decode cX6_isWord 24 = .ok (.iconst 0, 1) := by decide +kernel
theorem dX6_isWord_25 : decode cX6_isWord 25 = .ok (.ireturn, 1) := by decide +kernel
theorem dX6_isWord_26 : decode cX6_isWord 26 = .ok (.iconst 0, 1) := by decide +kernel
theorem dX6_isWord_27 : decode cX6_isWord 27 = .ok (.istore_n 2, 1) := by decide +kernel
theorem dX6_isWord_28 : decode cX6_isWord 28 = .ok (.iload_n 2, 1) := by decide +kernel
theorem dX6_isWord_29 : decode cX6_isWord 29 = .ok (.aload_n 1, 1) := by decide +kernel
theorem dX6_isWord_30 : decode cX6_isWord 30 = .ok (.invokevirtual 83, 3) := by decide +kernel
theorem dX6_isWord_33 : decode cX6_isWord 33 = .ok (.if_icmp .ge 29, 3) := by decide +kernel
theorem dX6_isWord_36 : decode cX6_isWord 36 = .ok (.aload_n 0, 1) := by decide +kernel
theorem dX6_isWord_37 : decode cX6_isWord 37 = .ok (.aload_n 0, 1) := by decide +kernel
theorem dX6_isWord_38 : decode cX6_isWord 38 = .ok (.getfield 25, 3) := by decide +kernel
theorem dX6_isWord_41 : decode cX6_isWord 41 = .ok (.iload_n 2, 1) := by decide +kernel
theorem dX6_isWord_42 : decode cX6_isWord 42 = .ok (.iadd, 1) := by decide +kernel
theorem dX6_isWord_43 : decode cX6_isWord 43 = .ok (.invokevirtual 87, 3) := by decide +kernel
theorem dX6_isWord_46 : decode cX6_isWord 46 = .ok (.aload_n 1, 1) := by decide +kernel
theorem dX6_isWord_47 : decode cX6_isWord 47 = .ok (.iload_n 2, 1) := by decide +kernel
theorem dX6_isWord_48 : decode cX6_isWord 48 = .ok (.invokevirtual 91, 3) := by decide +kernel
theorem dX6_isWord_51 : decode cX6_isWord 51 = .ok (.if_icmp .eq 5, 3) := by decide +kernel
theorem dX6_isWord_54 : decode cX6_isWord 54 = .ok (.iconst 0, 1) := by decide +kernel
theorem dX6_isWord_55 : decode cX6_isWord 55 = .ok (.ireturn, 1) := by decide +kernel
theorem dX6_isWord_56 : decode cX6_isWord 56 = .ok (.iinc 2 1, 3) := by decide +kernel
theorem dX6_isWord_59 : decode cX6_isWord 59 = .ok (.goto (-31), 3) := by decide +kernel
theorem dX6_isWord_62 : decode cX6_isWord 62 = .ok (.iconst 1, 1) := by decide +kernel
theorem dX6_isWord_63 : decode cX6_isWord 63 = .ok (.ireturn, 1) := by decide +kernel
theorem dX6_numberHere_0 : decode cX6_numberHere 0 = .ok (.aload_n 0, 1) := by decide +kernel
theorem dX6_numberHere_1 : decode cX6_numberHere 1 = .ok (.getfield 22, 3) := by decide +kernel
theorem dX6_numberHere_4 : decode cX6_numberHere 4 = .ok (.iconst 2, 1) := by decide +kernel
theorem dX6_numberHere_5 : decode cX6_numberHere 5 = .ok (.if_icmp .ne 16, 3) := by decide +kernel
theorem dX6_numberHere_8 : decode cX6_numberHere 8 = .ok (.aload_n 0, 1) := by decide +kernel
theorem dX6_numberHere_9 : decode cX6_numberHere 9 = .ok (.getfield 28, 3) := by decide +kernel
theorem dX6_numberHere_12 : decode cX6_numberHere 12 = .ok (.aload_n 0, 1) := by decide +kernel
theorem dX6_numberHere_13 : decode cX6_numberHere 13 = .ok (.getfield 25, 3) := by decide +kernel
theorem dX6_numberHere_16 : decode cX6_numberHere 16 = .ok (.isub, 1) := by decide +kernel
theorem dX6_numberHere_17 : decode cX6_numberHere 17 = .ok (.iconst 3, 1) := by decide +kernel
theorem dX6_numberHere_18 : decode cX6_numberHere 18 = .ok (.if_icmp .le 5, 3) := by decide +kernel
theorem dX6_numberHere_21 : decode cX6_numberHere 21 = .ok (.iconst (-1), 1) := by decide +kernel
theorem dX6_numberHere_22 : decode cX6_numberHere 22 = .ok (.ireturn, 1) := by decide +kernel
theorem dX6_numberHere_23 : decode cX6_numberHere 23 = .ok (.iconst 0, 1) := by decide +kernel
theorem dX6_numberHere_24 : decode cX6_numberHere 24 = .ok (.istore_n 1, 1) := by decide +kernel
theorem dX6_numberHere_25 : decode cX6_numberHere 25 = .ok (.aload_n 0, 1) := by decide +kernel
theorem dX6_numberHere_26 : decode cX6_numberHere 26 = .ok (.getfield 25, 3) := by decide +kernel
theorem dX6_numberHere_29 : decode cX6_numberHere 29 = .ok (.istore_n 2, 1) := by decide +kernel
theorem dX6_numberHere_30 : decode cX6_numberHere 30 = .ok (.iload_n 2, 1) := by decide +kernel
theorem dX6_numberHere_31 : decode cX6_numberHere 31 = .ok (.aload_n 0, 1) := by decide +kernel
theorem dX6_numberHere_32 : decode cX6_numberHere 32 = .ok (.getfield 28, 3) := by decide +kernel
theorem dX6_numberHere_35 : decode cX6_numberHere 35 = .ok (.if_icmp .ge 23, 3) := by decide +kernel
theorem dX6_numberHere_38 : decode cX6_numberHere 38 = .ok (.iload_n 1, 1) := by decide +kernel
theorem dX6_numberHere_39 : decode cX6_numberHere 39 = .ok (.bipush 10, 2) := by decide +kernel
theorem dX6_numberHere_41 : decode cX6_numberHere 41 = .ok (.imul, 1) := by decide +kernel
theorem dX6_numberHere_42 : decode cX6_numberHere 42 = .ok (.aload_n 0, 1) := by decide +kernel
theorem dX6_numberHere_43 : decode cX6_numberHere 43 = .ok (.iload_n 2, 1) := by decide +kernel
theorem dX6_numberHere_44 : decode cX6_numberHere 44 = .ok (.invokevirtual 87, 3) := by decide +kernel
theorem dX6_numberHere_47 : decode cX6_numberHere 47 = .ok (.iadd, 1) := by decide +kernel
theorem dX6_numberHere_48 : decode cX6_numberHere 48 = .ok (.bipush 48, 2) := by decide +kernel
theorem dX6_numberHere_50 : decode cX6_numberHere 50 = .ok (.isub, 1) := by decide +kernel
theorem dX6_numberHere_51 : decode cX6_numberHere 51 = .ok (.istore_n 1, 1) := by decide +kernel
theorem dX6_numberHere_52 : decode cX6_numberHere 52 = .ok (.iinc 2 1, 3) := by decide +kernel
theorem dX6_numberHere_55 : decode cX6_numberHere 55 = .ok (.goto (-25), 3) := by decide +kernel
theorem dX6_numberHere_58 : decode cX6_numberHere 58 = .ok (.iload_n 1, 1) := by decide +kernel
theorem dX6_numberHere_59 : decode cX6_numberHere 59 = .ok (.ireturn, 1) := by decide +kernel
theorem dX6_nextToken_0 : decode cX6_nextToken 0 = .ok (.aload_n 0, 1) := by decide +kernel
theorem dX6_nextToken_1 : decode cX6_nextToken 1 = .ok (.aload_n 0, 1) := by decide +kernel
theorem dX6_nextToken_2 : decode cX6_nextToken 2 = .ok (.getfield 28, 3) := by decide +kernel
theorem dX6_nextToken_5 : decode cX6_nextToken 5 = .ok (.putfield 25, 3) := by decide +kernel
theorem dX6_nextToken_8 : decode cX6_nextToken 8 = .ok (.aload_n 0, 1) := by decide +kernel
theorem dX6_nextToken_9 : decode cX6_nextToken 9 = .ok (.getfield 25, 3) := by decide +kernel
theorem dX6_nextToken_12 : decode cX6_nextToken 12 = .ok (.aload_n 0, 1) := by decide +kernel
theorem dX6_nextToken_13 : decode cX6_nextToken 13 = .ok (.getfield 19, 3) := by decide +kernel
theorem dX6_nextToken_16 : decode cX6_nextToken 16 = .ok (.if_icmp .ge 30, 3) := by decide +kernel
theorem dX6_nextToken_19 : decode cX6_nextToken 19 = .ok (.aload_n 0, 1) := by decide +kernel
theorem dX6_nextToken_20 : decode cX6_nextToken 20 = .ok (.aload_n 0, 1) := by decide +kernel
theorem dX6_nextToken_21 : decode cX6_nextToken 21 = .ok (.getfield 25, 3) := by decide +kernel
theorem dX6_nextToken_24 : decode cX6_nextToken 24 = .ok (.invokevirtual 87, 3) := by decide +kernel
theorem dX6_nextToken_27 : decode cX6_nextToken 27 = .ok (.invokestatic 95, 3) := by decide +kernel
theorem dX6_nextToken_30 : decode cX6_nextToken 30 = .ok (.ifCond .eq 16, 3) := by decide +kernel
theorem dX6_nextToken_33 : decode cX6_nextToken 33 = .ok (.aload_n 0, 1) := by decide +kernel
theorem dX6_nextToken_34 : decode cX6_nextToken 34 = .ok (.dup, 1) := by decide +kernel
theorem dX6_nextToken_35 : decode cX6_nextToken 35 = .ok (.getfield 25, 3) := by decide +kernel
theorem dX6_nextToken_38 : decode cX6_nextToken 38 = .ok (.iconst 1, 1) := by decide +kernel
theorem dX6_nextToken_39 : decode cX6_nextToken 39 = .ok (.iadd, 1) := by decide +kernel
theorem dX6_nextToken_40 : decode cX6_nextToken 40 = .ok (.putfield 25, 3) := by decide +kernel
theorem dX6_nextToken_43 : decode cX6_nextToken 43 = .ok (.goto (-35), 3) := by decide +kernel
theorem dX6_nextToken_46 : decode cX6_nextToken 46 = .ok (.aload_n 0, 1) := by decide +kernel
theorem dX6_nextToken_47 : decode cX6_nextToken 47 = .ok (.aload_n 0, 1) := by decide +kernel
theorem dX6_nextToken_48 : decode cX6_nextToken 48 = .ok (.getfield 25, 3) := by decide +kernel
theorem dX6_nextToken_51 : decode cX6_nextToken 51 = .ok (.putfield 28, 3) := by decide +kernel
theorem dX6_nextToken_54 : decode cX6_nextToken 54 = .ok (.aload_n 0, 1) := by decide +kernel
theorem dX6_nextToken_55 : decode cX6_nextToken 55 = .ok (.getfield 25, 3) := by decide +kernel
theorem dX6_nextToken_58 : decode cX6_nextToken 58 = .ok (.aload_n 0, 1) := by decide +kernel
theorem dX6_nextToken_59 : decode cX6_nextToken 59 = .ok (.getfield 19, 3) := by decide +kernel
theorem dX6_nextToken_62 : decode cX6_nextToken 62 = .ok (.if_icmp .lt 11, 3) := by decide +kernel
theorem dX6_nextToken_65 : decode cX6_nextToken 65 = .ok (.aload_n 0, 1) := by decide +kernel
theorem dX6_nextToken_66 : decode cX6_nextToken 66 = .ok (.iconst 0, 1) := by decide +kernel
theorem dX6_nextToken_67 : decode cX6_nextToken 67 = .ok (.putfield 22, 3) := by decide +kernel
theorem dX6_nextToken_70 : decode cX6_nextToken 70 = .ok (.goto 149, 3) := by decide +kernel
theorem dX6_nextToken_73 : decode cX6_nextToken 73 = .ok (.aload_n 0, 1) := by decide +kernel
theorem dX6_nextToken_74 : decode cX6_nextToken 74 = .ok (.aload_n 0, 1) := by decide +kernel
theorem dX6_nextToken_75 : decode cX6_nextToken 75 = .ok (.getfield 25, 3) := by decide +kernel
theorem dX6_nextToken_78 : decode cX6_nextToken 78 = .ok (.invokevirtual 87, 3) := by decide +kernel
theorem dX6_nextToken_81 : decode cX6_nextToken 81 = .ok (.invokestatic 99, 3) := by decide +kernel
theorem dX6_nextToken_84 : decode cX6_nextToken 84 = .ok (.ifCond .eq 46, 3) := by decide +kernel
theorem dX6_nextToken_87 : decode cX6_nextToken 87 = .ok (.aload_n 0, 1) := by decide +kernel
theorem dX6_nextToken_88 : decode cX6_nextToken 88 = .ok (.iconst 1, 1) := by decide +kernel
theorem dX6_nextToken_89 : decode cX6_nextToken 89 = .ok (.putfield 22, 3) := by decide +kernel
theorem dX6_nextToken_92 : decode cX6_nextToken 92 = .ok (.aload_n 0, 1) := by decide +kernel
theorem dX6_nextToken_93 : decode cX6_nextToken 93 = .ok (.getfield 28, 3) := by decide +kernel
theorem dX6_nextToken_96 : decode cX6_nextToken 96 = .ok (.aload_n 0, 1) := by decide +kernel
theorem dX6_nextToken_97 : decode cX6_nextToken 97 = .ok (.getfield 19, 3) := by decide +kernel
theorem dX6_nextToken_100 : decode cX6_nextToken 100 = .ok (.if_icmp .ge 119, 3) := by decide +kernel
theorem dX6_nextToken_103 : decode cX6_nextToken 103 = .ok (.aload_n 0, 1) := by decide +kernel
theorem dX6_nextToken_104 : decode cX6_nextToken 104 = .ok (.aload_n 0, 1) := by decide +kernel
theorem dX6_nextToken_105 : decode cX6_nextToken 105 = .ok (.getfield 28, 3) := by decide +kernel
theorem dX6_nextToken_108 : decode cX6_nextToken 108 = .ok (.invokevirtual 87, 3) := by decide +kernel
theorem dX6_nextToken_111 : decode cX6_nextToken 111 = .ok (.invokestatic 99, 3) := by decide +kernel
theorem dX6_nextToken_114 : decode cX6_nextToken 114 = .ok (.ifCond .eq 105, 3) := by decide +kernel
theorem dX6_nextToken_117 : decode cX6_nextToken 117 = .ok (.aload_n 0, 1) := by decide +kernel
theorem dX6_nextToken_118 : decode cX6_nextToken 118 = .ok (.dup, 1) := by decide +kernel
theorem dX6_nextToken_119 : decode cX6_nextToken 119 = .ok (.getfield 28, 3) := by decide +kernel
theorem dX6_nextToken_122 : decode cX6_nextToken 122 = .ok (.iconst 1, 1) := by decide +kernel
theorem dX6_nextToken_123 : decode cX6_nextToken 123 = .ok (.iadd, 1) := by decide +kernel
theorem dX6_nextToken_124 : decode cX6_nextToken 124 = .ok (.putfield 28, 3) := by decide +kernel
theorem dX6_nextToken_127 : decode cX6_nextToken 127 = .ok (.goto (-35), 3) := by decide +kernel
theorem dX6_nextToken_130 : decode cX6_nextToken 130 = .ok (.aload_n 0, 1) := by decide +kernel
theorem dX6_nextToken_131 : decode cX6_nextToken 131 = .ok (.aload_n 0, 1) := by decide +kernel
theorem dX6_nextToken_132 : decode cX6_nextToken 132 = .ok (.getfield 25, 3) := by decide +kernel
theorem dX6_nextToken_135 : decode cX6_nextToken 135 = .ok (.invokevirtual 87, 3) := by decide +kernel
theorem dX6_nextToken_138 : decode cX6_nextToken 138 = .ok (.invokestatic 102, 3) := by decide +kernel
theorem dX6_nextToken_141 : decode cX6_nextToken 141 = .ok (.ifCond .eq 46, 3) := by decide +kernel
theorem dX6_nextToken_144 : decode cX6_nextToken 144 = .ok (.aload_n 0, 1) := by decide +kernel
theorem dX6_nextToken_145 : decode cX6_nextToken 145 = .ok (.iconst 2, 1) := by decide +kernel
theorem dX6_nextToken_146 : decode cX6_nextToken 146 = .ok (.putfield 22, 3) := by decide +kernel
theorem dX6_nextToken_149 : decode cX6_nextToken 149 = .ok (.aload_n 0, 1) := by decide +kernel
theorem dX6_nextToken_150 : decode cX6_nextToken 150 = .ok (.getfield 28, 3) := by decide +kernel
theorem dX6_nextToken_153 : decode cX6_nextToken 153 = .ok (.aload_n 0, 1) := by decide +kernel
theorem dX6_nextToken_154 : decode cX6_nextToken 154 = .ok (.getfield 19, 3) := by decide +kernel
theorem dX6_nextToken_157 : decode cX6_nextToken 157 = .ok (.if_icmp .ge 62, 3) := by decide +kernel
theorem dX6_nextToken_160 : decode cX6_nextToken 160 = .ok (.aload_n 0, 1) := by decide +kernel
theorem dX6_nextToken_161 : decode cX6_nextToken 161 = .ok (.aload_n 0, 1) := by decide +kernel
theorem dX6_nextToken_162 : decode cX6_nextToken 162 = .ok (.getfield 28, 3) := by decide +kernel
theorem dX6_nextToken_165 : decode cX6_nextToken 165 = .ok (.invokevirtual 87, 3) := by decide +kernel
theorem dX6_nextToken_168 : decode cX6_nextToken 168 = .ok (.invokestatic 102, 3) := by decide +kernel
theorem dX6_nextToken_171 : decode cX6_nextToken 171 = .ok (.ifCond .eq 48, 3) := by decide +kernel
theorem dX6_nextToken_174 : decode cX6_nextToken 174 = .ok (.aload_n 0, 1) := by decide +kernel
theorem dX6_nextToken_175 : decode cX6_nextToken 175 = .ok (.dup, 1) := by decide +kernel
theorem dX6_nextToken_176 : decode cX6_nextToken 176 = .ok (.getfield 28, 3) := by decide +kernel
theorem dX6_nextToken_179 : decode cX6_nextToken 179 = .ok (.iconst 1, 1) := by decide +kernel
theorem dX6_nextToken_180 : decode cX6_nextToken 180 = .ok (.iadd, 1) := by decide +kernel
theorem dX6_nextToken_181 : decode cX6_nextToken 181 = .ok (.putfield 28, 3) := by decide +kernel
theorem dX6_nextToken_184 : decode cX6_nextToken 184 = .ok (.goto (-35), 3) := by decide +kernel
theorem dX6_nextToken_187 : decode cX6_nextToken 187 = .ok (.aload_n 0, 1) := by decide +kernel
theorem dX6_nextToken_188 : decode cX6_nextToken 188 = .ok (.aload_n 0, 1) := by decide +kernel
theorem dX6_nextToken_189 : decode cX6_nextToken 189 = .ok (.aload_n 0, 1) := by decide +kernel
theorem dX6_nextToken_190 : decode cX6_nextToken 190 = .ok (.getfield 25, 3) := by decide +kernel
theorem dX6_nextToken_193 : decode cX6_nextToken 193 = .ok (.invokevirtual 87, 3) := by decide +kernel
theorem dX6_nextToken_196 : decode cX6_nextToken 196 = .ok (.bipush 59, 2) := by decide +kernel
theorem dX6_nextToken_198 : decode cX6_nextToken 198 = .ok (.if_icmp .ne 7, 3) := by decide +kernel
theorem dX6_nextToken_201 : decode cX6_nextToken 201 = .ok (.iconst 3, 1) := by decide +kernel
theorem dX6_nextToken_202 : decode cX6_nextToken 202 = .ok (.goto 4, 3) := by decide +kernel
theorem dX6_nextToken_205 : decode cX6_nextToken 205 = .ok (.iconst 4, 1) := by decide +kernel
theorem dX6_nextToken_206 : decode cX6_nextToken 206 = .ok (.putfield 22, 3) := by decide +kernel
theorem dX6_nextToken_209 : decode cX6_nextToken 209 = .ok (.aload_n 0, 1) := by decide +kernel
theorem dX6_nextToken_210 : decode cX6_nextToken 210 = .ok (.dup, 1) := by decide +kernel
theorem dX6_nextToken_211 : decode cX6_nextToken 211 = .ok (.getfield 28, 3) := by decide +kernel
theorem dX6_nextToken_214 : decode cX6_nextToken 214 = .ok (.iconst 1, 1) := by decide +kernel
theorem dX6_nextToken_215 : decode cX6_nextToken 215 = .ok (.iadd, 1) := by decide +kernel
theorem dX6_nextToken_216 : decode cX6_nextToken 216 = .ok (.putfield 28, 3) := by decide +kernel
theorem dX6_nextToken_219 : decode cX6_nextToken 219 = .ok (.return_, 1) := by decide +kernel
theorem dX6_byteAt_0 : decode cX6_byteAt 0 = .ok (.iload_n 1, 1) := by decide +kernel
theorem dX6_byteAt_1 : decode cX6_byteAt 1 = .ok (.ifCond .lt 21, 3) := by decide +kernel
theorem dX6_byteAt_4 : decode cX6_byteAt 4 = .ok (.iload_n 1, 1) := by decide +kernel
theorem dX6_byteAt_5 : decode cX6_byteAt 5 = .ok (.aload_n 0, 1) := by decide +kernel
theorem dX6_byteAt_6 : decode cX6_byteAt 6 = .ok (.getfield 9, 3) := by decide +kernel
theorem dX6_byteAt_9 : decode cX6_byteAt 9 = .ok (.arraylength, 1) := by decide +kernel
theorem dX6_byteAt_10 : decode cX6_byteAt 10 = .ok (.if_icmp .ge 12, 3) := by decide +kernel
theorem dX6_byteAt_13 : decode cX6_byteAt 13 = .ok (.aload_n 0, 1) := by decide +kernel
theorem dX6_byteAt_14 : decode cX6_byteAt 14 = .ok (.getfield 9, 3) := by decide +kernel
theorem dX6_byteAt_17 : decode cX6_byteAt 17 = .ok (.iload_n 1, 1) := by decide +kernel
theorem dX6_byteAt_18 : decode cX6_byteAt 18 = .ok (.baload, 1) := by decide +kernel
theorem dX6_byteAt_19 : decode cX6_byteAt 19 = .ok (.goto 4, 3) := by decide +kernel
theorem dX6_byteAt_22 : decode cX6_byteAt 22 = .ok (.iconst 0, 1) := by decide +kernel
theorem dX6_byteAt_23 : decode cX6_byteAt 23 = .ok (.ireturn, 1) := by decide +kernel
theorem dX6_isBlank_0 : decode cX6_isBlank 0 = .ok (.iload_n 0, 1) := by decide +kernel
theorem dX6_isBlank_1 : decode cX6_isBlank 1 = .ok (.bipush 32, 2) := by decide +kernel
theorem dX6_isBlank_3 : decode cX6_isBlank 3 = .ok (.if_icmp .eq 9, 3) := by decide +kernel
theorem dX6_isBlank_6 : decode cX6_isBlank 6 = .ok (.iload_n 0, 1) := by decide +kernel
theorem dX6_isBlank_7 : decode cX6_isBlank 7 = .ok (.bipush 10, 2) := by decide +kernel
theorem dX6_isBlank_9 : decode cX6_isBlank 9 = .ok (.if_icmp .ne 7, 3) := by decide +kernel
theorem dX6_isBlank_12 : decode cX6_isBlank 12 = .ok (.iconst 1, 1) := by decide +kernel
theorem dX6_isBlank_13 : decode cX6_isBlank 13 = .ok (.goto 4, 3) := by decide +kernel
theorem dX6_isBlank_16 : decode cX6_isBlank 16 = .ok (.iconst 0, 1) := by decide +kernel
theorem dX6_isBlank_17 : decode cX6_isBlank 17 = .ok (.ireturn, 1) := by decide +kernel
theorem dX6_isLetter_0 : decode cX6_isLetter 0 = .ok (.iload_n 0, 1) := by decide +kernel
theorem dX6_isLetter_1 : decode cX6_isLetter 1 = .ok (.bipush 97, 2) := by decide +kernel
theorem dX6_isLetter_3 : decode cX6_isLetter 3 = .ok (.if_icmp .lt 13, 3) := by decide +kernel
theorem dX6_isLetter_6 : decode cX6_isLetter 6 = .ok (.iload_n 0, 1) := by decide +kernel
theorem dX6_isLetter_7 : decode cX6_isLetter 7 = .ok (.bipush 122, 2) := by decide +kernel
theorem dX6_isLetter_9 : decode cX6_isLetter 9 = .ok (.if_icmp .gt 7, 3) := by decide +kernel
theorem dX6_isLetter_12 : decode cX6_isLetter 12 = .ok (.iconst 1, 1) := by decide +kernel
theorem dX6_isLetter_13 : decode cX6_isLetter 13 = .ok (.goto 4, 3) := by decide +kernel
theorem dX6_isLetter_16 : decode cX6_isLetter 16 = .ok (.iconst 0, 1) := by decide +kernel
theorem dX6_isLetter_17 : decode cX6_isLetter 17 = .ok (.ireturn, 1) := by decide +kernel
theorem dX6_isDigit_0 : decode cX6_isDigit 0 = .ok (.iload_n 0, 1) := by decide +kernel
theorem dX6_isDigit_1 : decode cX6_isDigit 1 = .ok (.bipush 48, 2) := by decide +kernel
theorem dX6_isDigit_3 : decode cX6_isDigit 3 = .ok (.if_icmp .lt 13, 3) := by decide +kernel
theorem dX6_isDigit_6 : decode cX6_isDigit 6 = .ok (.iload_n 0, 1) := by decide +kernel
theorem dX6_isDigit_7 : decode cX6_isDigit 7 = .ok (.bipush 57, 2) := by decide +kernel
theorem dX6_isDigit_9 : decode cX6_isDigit 9 = .ok (.if_icmp .gt 7, 3) := by decide +kernel
theorem dX6_isDigit_12 : decode cX6_isDigit 12 = .ok (.iconst 1, 1) := by decide +kernel
theorem dX6_isDigit_13 : decode cX6_isDigit 13 = .ok (.goto 4, 3) := by decide +kernel
theorem dX6_isDigit_16 : decode cX6_isDigit 16 = .ok (.iconst 0, 1) := by decide +kernel
theorem dX6_isDigit_17 : decode cX6_isDigit 17 = .ok (.ireturn, 1) := by decide +kernel
theorem dX7_init_0 : decode cX7_init 0 = .ok (.aload_n 0, 1) := by decide +kernel
theorem dX7_init_1 : decode cX7_init 1 = .ok (.invokespecial 1, 3) := by decide +kernel
theorem dX7_init_4 : decode cX7_init 4 = .ok (.aload_n 0, 1) := by decide +kernel
theorem dX7_init_5 : decode cX7_init 5 = .ok (.bipush 40, 2) := by decide +kernel
theorem dX7_init_7 : decode cX7_init 7 = .ok (.anewarray 9, 3) := by decide +kernel
theorem dX7_init_10 : decode cX7_init 10 = .ok (.putfield 11, 3) := by decide +kernel
theorem dX7_init_13 : decode cX7_init 13 = .ok (.aload_n 0, 1) := by decide +kernel
theorem dX7_init_14 : decode cX7_init 14 = .ok (.new 15, 3) := by decide +kernel
theorem dX7_init_17 : decode cX7_init 17 = .ok (.dup, 1) := by decide +kernel
theorem dX7_init_18 : decode cX7_init 18 = .ok (.invokespecial 17, 3) := by decide +kernel
theorem dX7_init_21 : decode cX7_init 21 = .ok (.putfield 18, 3) := by decide +kernel
theorem dX7_init_24 : decode cX7_init 24 = .ok (.aload_n 0, 1) := by decide +kernel
theorem dX7_init_25 : decode cX7_init 25 = .ok (.new 22, 3) := by decide +kernel
theorem dX7_init_28 : decode cX7_init 28 = .ok (.dup, 1) := by decide +kernel
theorem dX7_init_29 : decode cX7_init 29 = .ok (.invokespecial 24, 3) := by decide +kernel
theorem dX7_init_32 : decode cX7_init 32 = .ok (.putfield 25, 3) := by decide +kernel
theorem dX7_init_35 : decode cX7_init 35 = .ok (.aload_n 0, 1) := by decide +kernel
theorem dX7_init_36 : decode cX7_init 36 = .ok (.new 22, 3) := by decide +kernel
theorem dX7_init_39 : decode cX7_init 39 = .ok (.dup, 1) := by decide +kernel
theorem dX7_init_40 : decode cX7_init 40 = .ok (.invokespecial 24, 3) := by decide +kernel
theorem dX7_init_43 : decode cX7_init 43 = .ok (.putfield 29, 3) := by decide +kernel
theorem dX7_init_46 : decode cX7_init 46 = .ok (.aload_n 0, 1) := by decide +kernel
theorem dX7_init_47 : decode cX7_init 47 = .ok (.new 32, 3) := by decide +kernel
theorem dX7_init_50 : decode cX7_init 50 = .ok (.dup, 1) := by decide +kernel
theorem dX7_init_51 : decode cX7_init 51 = .ok (.invokespecial 34, 3) := by decide +kernel
theorem dX7_init_54 : decode cX7_init 54 = .ok (.putfield 35, 3) := by decide +kernel
theorem dX7_init_57 : decode cX7_init 57 = .ok (.aload_n 0, 1) := by decide +kernel
theorem dX7_init_58 : decode cX7_init 58 = .ok (.iconst 0, 1) := by decide +kernel
theorem dX7_init_59 : decode cX7_init 59 = .ok (.putfield 39, 3) := by decide +kernel
theorem dX7_init_62 : decode cX7_init 62 = .ok (.aload_n 0, 1) := by decide +kernel
theorem dX7_init_63 : decode cX7_init 63 = .ok (.iconst 0, 1) := by decide +kernel
theorem dX7_init_64 : decode cX7_init 64 = .ok (.putfield 43, 3) := by decide +kernel
theorem dX7_init_67 : decode cX7_init 67 = .ok (.aload_n 0, 1) := by decide +kernel
theorem dX7_init_68 : decode cX7_init 68 = .ok (.iconst 0, 1) := by decide +kernel
theorem dX7_init_69 : decode cX7_init 69 = .ok (.putfield 46, 3) := by decide +kernel
theorem dX7_init_72 : decode cX7_init 72 = .ok (.aload_n 0, 1) := by decide +kernel
theorem dX7_init_73 : decode cX7_init 73 = .ok (.iconst 0, 1) := by decide +kernel
theorem dX7_init_74 : decode cX7_init 74 = .ok (.putfield 49, 3) := by decide +kernel
theorem dX7_init_77 : decode cX7_init 77 = .ok (.aload_n 0, 1) := by decide +kernel
theorem dX7_init_78 : decode cX7_init 78 = .ok (.iconst (-1), 1) := by decide +kernel
theorem dX7_init_79 : decode cX7_init 79 = .ok (.putfield 52, 3) := by decide +kernel
theorem dX7_init_82 : decode cX7_init 82 = .ok (.aload_n 0, 1) := by decide +kernel
theorem dX7_init_83 : decode cX7_init 83 = .ok (.iconst (-1), 1) := by decide +kernel
theorem dX7_init_84 : decode cX7_init 84 = .ok (.putfield 55, 3) := by decide +kernel
theorem dX7_init_87 : decode cX7_init 87 = .ok (.aload_n 0, 1) := by decide +kernel
theorem dX7_init_88 : decode cX7_init 88 = .ok (.iconst (-1), 1) := by decide +kernel
theorem dX7_init_89 : decode cX7_init 89 = .ok (.putfield 58, 3) := by decide +kernel
theorem dX7_init_92 : decode cX7_init 92 = .ok (.aload_n 0, 1) := by decide +kernel
theorem dX7_init_93 : decode cX7_init 93 = .ok (.iconst (-1), 1) := by decide +kernel
theorem dX7_init_94 : decode cX7_init 94 = .ok (.putfield 61, 3) := by decide +kernel
theorem dX7_init_97 : decode cX7_init 97 = .ok (.iconst 2, 1) := by decide +kernel
theorem dX7_init_98 : decode cX7_init 98 = .ok (.bipush 11, 2) := by decide +kernel
theorem dX7_init_100 : decode cX7_init 100 = .ok (.iload_n 1, 1) := by decide +kernel
theorem dX7_init_101 : decode cX7_init 101 = .ok (.invokestatic 64, 3) := by decide +kernel
theorem dX7_init_104 : decode cX7_init 104 = .ok (.invokestatic 70, 3) := by decide +kernel
theorem dX7_init_107 : decode cX7_init 107 = .ok (.istore_n 2, 1) := by decide +kernel
theorem dX7_init_108 : decode cX7_init 108 = .ok (.aload_n 0, 1) := by decide +kernel
theorem dX7_init_109 : decode cX7_init 109 = .ok (.iload_n 2, 1) := by decide +kernel
theorem dX7_init_110 : decode cX7_init 110 = .ok (.anewarray 73, 3) := by decide +kernel
theorem dX7_init_113 : decode cX7_init 113 = .ok (.putfield 75, 3) := by decide +kernel
theorem dX7_init_116 : decode cX7_init 116 = .ok (.aconst_null, 1) := by decide +kernel
theorem dX7_init_117 : decode cX7_init 117 = .ok (.astore_n 3, 1) := by decide +kernel
theorem dX7_init_118 : decode cX7_init 118 = .ok (.iload_n 2, 1) := by decide +kernel
theorem dX7_init_119 : decode cX7_init 119 = .ok (.iconst 1, 1) := by decide +kernel
theorem dX7_init_120 : decode cX7_init 120 = .ok (.isub, 1) := by decide +kernel
theorem dX7_init_121 : decode cX7_init 121 = .ok (.istore 4, 2) := by decide +kernel
theorem dX7_init_123 : decode cX7_init 123 = .ok (.iload 4, 2) := by decide +kernel
theorem dX7_init_125 : decode cX7_init 125 = .ok (.ifCond .lt 28, 3) := by decide +kernel
theorem dX7_init_128 : decode cX7_init 128 = .ok (.new 73, 3) := by decide +kernel
theorem dX7_init_131 : decode cX7_init 131 = .ok (.dup, 1) := by decide +kernel
theorem dX7_init_132 : decode cX7_init 132 = .ok (.iload 4, 2) := by decide +kernel
theorem dX7_init_134 : decode cX7_init 134 = .ok (.aload_n 3, 1) := by decide +kernel
theorem dX7_init_135 : decode cX7_init 135 = .ok (.invokespecial 79, 3) := by decide +kernel
theorem dX7_init_138 : decode cX7_init 138 = .ok (.astore_n 3, 1) := by decide +kernel
theorem dX7_init_139 : decode cX7_init 139 = .ok (.aload_n 0, 1) := by decide +kernel
theorem dX7_init_140 : decode cX7_init 140 = .ok (.getfield 75, 3) := by decide +kernel
theorem dX7_init_143 : decode cX7_init 143 = .ok (.iload 4, 2) := by decide +kernel
theorem dX7_init_145 : decode cX7_init 145 = .ok (.aload_n 3, 1) := by decide +kernel
theorem dX7_init_146 : decode cX7_init 146 = .ok (.aastore, 1) := by decide +kernel
theorem dX7_init_147 : decode cX7_init 147 = .ok (.iinc 4 (-1), 3) := by decide +kernel
theorem dX7_init_150 : decode cX7_init 150 = .ok (.goto (-27), 3) := by decide +kernel
theorem dX7_init_153 : decode cX7_init 153 = .ok (.aload_n 0, 1) := by decide +kernel
theorem dX7_init_154 : decode cX7_init 154 = .ok (.new 82, 3) := by decide +kernel
theorem dX7_init_157 : decode cX7_init 157 = .ok (.dup, 1) := by decide +kernel
theorem dX7_init_158 : decode cX7_init 158 = .ok (.aload_n 3, 1) := by decide +kernel
theorem dX7_init_159 : decode cX7_init 159 = .ok (.aload_n 0, 1) := by decide +kernel
theorem dX7_init_160 : decode cX7_init 160 = .ok (.getfield 25, 3) := by decide +kernel
theorem dX7_init_163 : decode cX7_init 163 = .ok (.invokespecial 84, 3) := by decide +kernel
theorem dX7_init_166 : decode cX7_init 166 = .ok (.putfield 87, 3) := by decide +kernel
theorem dX7_init_169 : decode cX7_init 169 = .ok (.return_, 1) := by decide +kernel
theorem dX7_tank_0 : decode cX7_tank 0 = .ok (.aload_n 0, 1) := by decide +kernel
theorem dX7_tank_1 : decode cX7_tank 1 = .ok (.iload_n 1, 1) := by decide +kernel
theorem dX7_tank_2 : decode cX7_tank 2 = .ok (.invokevirtual 91, 3) := by decide +kernel
theorem dX7_tank_5 : decode cX7_tank 5 = .ok (.astore 5, 2) := by decide +kernel
theorem dX7_tank_7 : decode cX7_tank 7 = .ok (.aload 5, 2) := by decide +kernel
theorem dX7_tank_9 : decode cX7_tank 9 = .ok (.ifnull 41, 3) := by decide +kernel
theorem dX7_tank_12 : decode cX7_tank 12 = .ok (.iload_n 2, 1) := by decide +kernel
theorem dX7_tank_13 : decode cX7_tank 13 = .ok (.iconst 0, 1) := by decide +kernel
theorem dX7_tank_14 : decode cX7_tank 14 = .ok (.bipush 20, 2) := by decide +kernel
theorem dX7_tank_16 : decode cX7_tank 16 = .ok (.invokestatic 95, 3) := by decide +kernel
theorem dX7_tank_19 : decode cX7_tank 19 = .ok (.ifCond .eq 31, 3) := by decide +kernel
theorem dX7_tank_22 : decode cX7_tank 22 = .ok (.iload_n 3, 1) := by decide +kernel
theorem dX7_tank_23 : decode cX7_tank 23 = .ok (.bipush 10, 2) := by decide +kernel
theorem dX7_tank_25 : decode cX7_tank 25 = .ok (.sipush 1000, 3) := by decide +kernel
theorem dX7_tank_28 : decode cX7_tank 28 = .ok (.invokestatic 95, 3) := by decide +kernel
theorem dX7_tank_31 : decode cX7_tank 31 = .ok (.ifCond .eq 19, 3) := by decide +kernel
theorem dX7_tank_34 : decode cX7_tank 34 = .ok (.iload 4, 2) := by decide +kernel
theorem dX7_tank_36 : decode cX7_tank 36 = .ok (.iconst 0, 1) := by decide +kernel
theorem dX7_tank_37 : decode cX7_tank 37 = .ok (.sipush 500, 3) := by decide +kernel
theorem dX7_tank_40 : decode cX7_tank 40 = .ok (.invokestatic 95, 3) := by decide +kernel
theorem dX7_tank_43 : decode cX7_tank 43 = .ok (.ifCond .eq 7, 3) := by decide +kernel
theorem dX7_tank_46 : decode cX7_tank 46 = .ok (.iconst 1, 1) := by decide +kernel
theorem dX7_tank_47 : decode cX7_tank 47 = .ok (.goto 4, 3) := by decide +kernel
theorem dX7_tank_50 : decode cX7_tank 50 = .ok (.iconst 0, 1) := by decide +kernel
theorem dX7_tank_51 : decode cX7_tank 51 = .ok (.istore 6, 2) := by decide +kernel
theorem dX7_tank_53 : decode cX7_tank 53 = .ok (.iload 6, 2) := by decide +kernel
theorem dX7_tank_55 : decode cX7_tank 55 = .ok (.ifCond .eq 10, 3) := by decide +kernel
theorem dX7_tank_58 : decode cX7_tank 58 = .ok (.aload_n 0, 1) := by decide +kernel
theorem dX7_tank_59 : decode cX7_tank 59 = .ok (.getfield 43, 3) := by decide +kernel
theorem dX7_tank_62 : decode cX7_tank 62 = .ok (.ifCond .le 5, 3) := by decide +kernel
theorem dX7_tank_65 : decode cX7_tank 65 = .ok (.iconst 0, 1) := by decide +kernel
theorem dX7_tank_66 : decode cX7_tank 66 = .ok (.ireturn, 1) := by decide +kernel
theorem dX7_tank_67 : decode cX7_tank 67 = .ok (.aload 5, 2) := by decide +kernel
theorem dX7_tank_69 : decode cX7_tank 69 = .ok (.iload_n 2, 1) := by decide +kernel
theorem dX7_tank_70 : decode cX7_tank 70 = .ok (.putfield 99, 3) := by decide +kernel
theorem dX7_tank_73 : decode cX7_tank 73 = .ok (.aload 5, 2) := by decide +kernel
theorem dX7_tank_75 : decode cX7_tank 75 = .ok (.iload_n 3, 1) := by decide +kernel
theorem dX7_tank_76 : decode cX7_tank 76 = .ok (.putfield 102, 3) := by decide +kernel
theorem dX7_tank_79 : decode cX7_tank 79 = .ok (.aload 5, 2) := by decide +kernel
theorem dX7_tank_81 : decode cX7_tank 81 = .ok (.iload 4, 2) := by decide +kernel
theorem dX7_tank_83 : decode cX7_tank 83 = .ok (.putfield 105, 3) := by decide +kernel
theorem dX7_tank_86 : decode cX7_tank 86 = .ok (.iconst 1, 1) := by decide +kernel
theorem dX7_tank_87 : decode cX7_tank 87 = .ok (.ireturn, 1) := by decide +kernel
theorem dX7_water_0 : decode cX7_water 0 = .ok (.aload_n 0, 1) := by decide +kernel
theorem dX7_water_1 : decode cX7_water 1 = .ok (.iload_n 1, 1) := by decide +kernel
theorem dX7_water_2 : decode cX7_water 2 = .ok (.invokevirtual 91, 3) := by decide +kernel
theorem dX7_water_5 : decode cX7_water 5 = .ok (.astore_n 3, 1) := by decide +kernel
theorem dX7_water_6 : decode cX7_water 6 = .ok (.aload_n 3, 1) := by decide +kernel
theorem dX7_water_7 : decode cX7_water 7 = .ok (.ifnull 22, 3) := by decide +kernel
theorem dX7_water_10 : decode cX7_water 10 = .ok (.iload_n 2, 1) := by decide +kernel
theorem dX7_water_11 : decode cX7_water 11 = .ok (.iconst 0, 1) := by decide +kernel
theorem dX7_water_12 : decode cX7_water 12 = .ok (.aload_n 3, 1) := by decide +kernel
theorem dX7_water_13 : decode cX7_water 13 = .ok (.aload_n 3, 1) := by decide +kernel
theorem dX7_water_14 : decode cX7_water 14 = .ok (.getfield 108, 3) := by decide +kernel
theorem dX7_water_17 : decode cX7_water 17 = .ok (.getfield 112, 3) := by decide +kernel
theorem dX7_water_20 : decode cX7_water 20 = .ok (.invokevirtual 118, 3) := by decide +kernel
theorem dX7_water_23 : decode cX7_water 23 = .ok (.invokestatic 95, 3) := by decide +kernel
theorem dX7_water_26 : decode cX7_water 26 = .ok (.ifCond .ne 5, 3) := by decide +kernel
theorem dX7_water_29 : decode cX7_water 29 = .ok (.iconst 0, 1) := by decide +kernel
theorem dX7_water_30 : decode cX7_water 30 = .ok (.ireturn, 1) := by decide +kernel
theorem dX7_water_31 : decode cX7_water 31 = .ok (.aload_n 0, 1) := by decide +kernel
theorem dX7_water_32 : decode cX7_water 32 = .ok (.dup, 1) := by decide +kernel
theorem dX7_water_33 : decode cX7_water 33 = .ok (.getfield 49, 3) := by decide +kernel
theorem dX7_water_36 : decode cX7_water 36 = .ok (.iload_n 2, 1) := by decide +kernel
theorem dX7_water_37 : decode cX7_water 37 = .ok (.aload_n 3, 1) := by decide +kernel
theorem dX7_water_38 : decode cX7_water 38 = .ok (.getfield 108, 3) := by decide +kernel
theorem dX7_water_41 : decode cX7_water 41 = .ok (.getfield 122, 3) := by decide +kernel
theorem dX7_water_44 : decode cX7_water 44 = .ok (.isub, 1) := by decide +kernel
theorem dX7_water_45 : decode cX7_water 45 = .ok (.iadd, 1) := by decide +kernel
theorem dX7_water_46 : decode cX7_water 46 = .ok (.putfield 49, 3) := by decide +kernel
theorem dX7_water_49 : decode cX7_water 49 = .ok (.aload_n 3, 1) := by decide +kernel
theorem dX7_water_50 : decode cX7_water 50 = .ok (.getfield 108, 3) := by decide +kernel
theorem dX7_water_53 : decode cX7_water 53 = .ok (.iload_n 2, 1) := by decide +kernel
theorem dX7_water_54 : decode cX7_water 54 = .ok (.putfield 122, 3) := by decide +kernel
theorem dX7_water_57 : decode cX7_water 57 = .ok (.iconst 1, 1) := by decide +kernel
theorem dX7_water_58 : decode cX7_water 58 = .ok (.ireturn, 1) := by decide +kernel
theorem dX7_field_0 : decode cX7_field 0 = .ok (.aload_n 0, 1) := by decide +kernel
theorem dX7_field_1 : decode cX7_field 1 = .ok (.iload_n 1, 1) := by decide +kernel
theorem dX7_field_2 : decode cX7_field 2 = .ok (.invokevirtual 91, 3) := by decide +kernel
theorem dX7_field_5 : decode cX7_field 5 = .ok (.astore 6, 2) := by decide +kernel
theorem dX7_field_7 : decode cX7_field 7 = .ok (.aload 6, 2) := by decide +kernel
theorem dX7_field_9 : decode cX7_field 9 = .ok (.ifnull 38, 3) := by decide +kernel
theorem dX7_field_12 : decode cX7_field 12 = .ok (.iload_n 2, 1) := by decide +kernel
theorem dX7_field_13 : decode cX7_field 13 = .ok (.iconst 0, 1) := by decide +kernel
theorem dX7_field_14 : decode cX7_field 14 = .ok (.bipush 9, 2) := by decide +kernel
theorem dX7_field_16 : decode cX7_field 16 = .ok (.invokestatic 95, 3) := by decide +kernel
theorem dX7_field_19 : decode cX7_field 19 = .ok (.ifCond .eq 28, 3) := by decide +kernel
theorem dX7_field_22 : decode cX7_field 22 = .ok (.iload_n 3, 1) := by decide +kernel
theorem dX7_field_23 : decode cX7_field 23 = .ok (.iconst 1, 1) := by decide +kernel
theorem dX7_field_24 : decode cX7_field 24 = .ok (.bipush 20, 2) := by decide +kernel
theorem dX7_field_26 : decode cX7_field 26 = .ok (.invokestatic 95, 3) := by decide +kernel
theorem dX7_field_29 : decode cX7_field 29 = .ok (.ifCond .eq 18, 3) := by decide +kernel
theorem dX7_field_32 : decode cX7_field 32 = .ok (.iload 4, 2) := by decide +kernel
theorem dX7_field_34 : decode cX7_field 34 = .ok (.iconst 0, 1) := by decide +kernel
theorem dX7_field_35 : decode cX7_field 35 = .ok (.bipush 9, 2) := by decide +kernel
theorem dX7_field_37 : decode cX7_field 37 = .ok (.invokestatic 95, 3) := by decide +kernel
theorem dX7_field_40 : decode cX7_field 40 = .ok (.ifCond .eq 7, 3) := by decide +kernel
theorem dX7_field_43 : decode cX7_field 43 = .ok (.iconst 1, 1) := by decide +kernel
theorem dX7_field_44 : decode cX7_field 44 = .ok (.goto 4, 3) := by decide +kernel
theorem dX7_field_47 : decode cX7_field 47 = .ok (.iconst 0, 1) := by decide +kernel
theorem dX7_field_48 : decode cX7_field 48 = .ok (.istore 7, 2) := by decide +kernel
theorem dX7_field_50 : decode cX7_field 50 = .ok (.aload_n 0, 1) := by decide +kernel
theorem dX7_field_51 : decode cX7_field 51 = .ok (.getfield 39, 3) := by decide +kernel
theorem dX7_field_54 : decode cX7_field 54 = .ok (.istore 8, 2) := by decide +kernel
theorem dX7_field_56 : decode cX7_field 56 = .ok (.iload 7, 2) := by decide +kernel
theorem dX7_field_58 : decode cX7_field 58 = .ok (.ifCond .eq 13, 3) := by decide +kernel
theorem dX7_field_61 : decode cX7_field 61 = .ok (.iload 8, 2) := by decide +kernel
theorem dX7_field_63 : decode cX7_field 63 = .ok (.aload_n 0, 1) := by decide +kernel
theorem dX7_field_64 : decode cX7_field 64 = .ok (.getfield 11, 3) := by decide +kernel
theorem dX7_field_67 : decode cX7_field 67 = .ok (.arraylength, 1) := by decide +kernel
theorem dX7_field_68 : decode cX7_field 68 = .ok (.if_icmp .lt 5, 3) := by decide +kernel
theorem dX7_field_71 : decode cX7_field 71 = .ok (.iconst (-1), 1) := by decide +kernel
theorem dX7_field_72 : decode cX7_field 72 = .ok (.ireturn, 1) := by decide +kernel
theorem dX7_field_73 : decode cX7_field 73 = .ok (.new 9, 3) := by decide +kernel
theorem dX7_field_76 : decode cX7_field 76 = .ok (.dup, 1) := by decide +kernel
theorem dX7_field_77 : decode cX7_field 77 = .ok (.iload 8, 2) := by decide +kernel
theorem dX7_field_79 : decode cX7_field 79 = .ok (.iload_n 1, 1) := by decide +kernel
theorem dX7_field_80 : decode cX7_field 80 = .ok (.iload_n 2, 1) := by decide +kernel
theorem dX7_field_81 : decode cX7_field 81 = .ok (.iload_n 3, 1) := by decide +kernel
theorem dX7_field_82 : decode cX7_field 82 = .ok (.iload 4, 2) := by decide +kernel
theorem dX7_field_84 : decode cX7_field 84 = .ok (.iload 5, 2) := by decide +kernel
theorem dX7_field_86 : decode cX7_field 86 = .ok (.invokespecial 125, 3) := by decide +kernel
theorem dX7_field_89 : decode cX7_field 89 = .ok (.astore 9, 2) := by decide +kernel
theorem dX7_field_91 : decode cX7_field 91 = .ok (.aload_n 0, 1) := by decide +kernel
theorem dX7_field_92 : decode cX7_field 92 = .ok (.getfield 11, 3) := by decide +kernel
theorem dX7_field_95 : decode cX7_field 95 = .ok (.iload 8, 2) := by decide +kernel
theorem dX7_field_97 : decode cX7_field 97 = .ok (.aload 9, 2) := by decide +kernel
theorem dX7_field_99 : decode cX7_field 99 = .ok (.aastore, 1) := by decide +kernel
theorem dX7_field_100 : decode cX7_field 100 = .ok (.aload_n 0, 1) := by decide +kernel
theorem dX7_field_101 : decode cX7_field 101 = .ok (.iload 8, 2) := by decide +kernel
theorem dX7_field_103 : decode cX7_field 103 = .ok (.iconst 1, 1) := by decide +kernel
theorem dX7_field_104 : decode cX7_field 104 = .ok (.iadd, 1) := by decide +kernel
theorem dX7_field_105 : decode cX7_field 105 = .ok (.putfield 39, 3) := by decide +kernel
theorem dX7_field_108 : decode cX7_field 108 = .ok (.aload 6, 2) := by decide +kernel
theorem dX7_field_110 : decode cX7_field 110 = .ok (.aload 9, 2) := by decide +kernel
theorem dX7_field_112 : decode cX7_field 112 = .ok (.aload_n 0, 1) := by decide +kernel
theorem dX7_field_113 : decode cX7_field 113 = .ok (.getfield 25, 3) := by decide +kernel
theorem dX7_field_116 : decode cX7_field 116 = .ok (.invokevirtual 128, 3) := by decide +kernel
theorem dX7_field_119 : decode cX7_field 119 = .ok (.iload 8, 2) := by decide +kernel
theorem dX7_field_121 : decode cX7_field 121 = .ok (.ireturn, 1) := by decide +kernel
theorem dX7_open_0 : decode cX7_open 0 = .ok (.aload_n 0, 1) := by decide +kernel
theorem dX7_open_1 : decode cX7_open 1 = .ok (.iload_n 1, 1) := by decide +kernel
theorem dX7_open_2 : decode cX7_open 2 = .ok (.invokevirtual 91, 3) := by decide +kernel
theorem dX7_open_5 : decode cX7_open 5 = .ok (.astore_n 3, 1) := by decide +kernel
theorem dX7_open_6 : decode cX7_open 6 = .ok (.aload_n 3, 1) := by decide +kernel
theorem dX7_open_7 : decode cX7_open 7 = .ok (.ifnull 13, 3) := by decide +kernel
theorem dX7_open_10 : decode cX7_open 10 = .ok (.iload_n 2, 1) := by decide +kernel
theorem dX7_open_11 : decode cX7_open 11 = .ok (.iconst 0, 1) := by decide +kernel
theorem dX7_open_12 : decode cX7_open 12 = .ok (.bipush 20, 2) := by decide +kernel
theorem dX7_open_14 : decode cX7_open 14 = .ok (.invokestatic 95, 3) := by decide +kernel
theorem dX7_open_17 : decode cX7_open 17 = .ok (.ifCond .ne 5, 3) := by decide +kernel
theorem dX7_open_20 : decode cX7_open 20 = .ok (.iconst 0, 1) := by decide +kernel
theorem dX7_open_21 : decode cX7_open 21 = .ok (.ireturn, 1) := by decide +kernel
theorem dX7_open_22 : decode cX7_open 22 = .ok (.aload_n 3, 1) := by decide +kernel
theorem dX7_open_23 : decode cX7_open 23 = .ok (.getfield 108, 3) := by decide +kernel
theorem dX7_open_26 : decode cX7_open 26 = .ok (.iload_n 2, 1) := by decide +kernel
theorem dX7_open_27 : decode cX7_open 27 = .ok (.putfield 132, 3) := by decide +kernel
theorem dX7_open_30 : decode cX7_open 30 = .ok (.iconst 1, 1) := by decide +kernel
theorem dX7_open_31 : decode cX7_open 31 = .ok (.ireturn, 1) := by decide +kernel
theorem dX7_mend_0 : decode cX7_mend 0 = .ok (.aload_n 0, 1) := by decide +kernel
theorem dX7_mend_1 : decode cX7_mend 1 = .ok (.iload_n 1, 1) := by decide +kernel
theorem dX7_mend_2 : decode cX7_mend 2 = .ok (.invokevirtual 91, 3) := by decide +kernel
theorem dX7_mend_5 : decode cX7_mend 5 = .ok (.astore_n 3, 1) := by decide +kernel
theorem dX7_mend_6 : decode cX7_mend 6 = .ok (.aload_n 3, 1) := by decide +kernel
theorem dX7_mend_7 : decode cX7_mend 7 = .ok (.ifnull 14, 3) := by decide +kernel
theorem dX7_mend_10 : decode cX7_mend 10 = .ok (.iload_n 2, 1) := by decide +kernel
theorem dX7_mend_11 : decode cX7_mend 11 = .ok (.iconst 0, 1) := by decide +kernel
theorem dX7_mend_12 : decode cX7_mend 12 = .ok (.sipush 500, 3) := by decide +kernel
theorem dX7_mend_15 : decode cX7_mend 15 = .ok (.invokestatic 95, 3) := by decide +kernel
theorem dX7_mend_18 : decode cX7_mend 18 = .ok (.ifCond .ne 5, 3) := by decide +kernel
theorem dX7_mend_21 : decode cX7_mend 21 = .ok (.iconst 0, 1) := by decide +kernel
theorem dX7_mend_22 : decode cX7_mend 22 = .ok (.ireturn, 1) := by decide +kernel
theorem dX7_mend_23 : decode cX7_mend 23 = .ok (.aload_n 3, 1) := by decide +kernel
theorem dX7_mend_24 : decode cX7_mend 24 = .ok (.getfield 108, 3) := by decide +kernel
theorem dX7_mend_27 : decode cX7_mend 27 = .ok (.iconst 0, 1) := by decide +kernel
theorem dX7_mend_28 : decode cX7_mend 28 = .ok (.putfield 112, 3) := by decide +kernel
theorem dX7_mend_31 : decode cX7_mend 31 = .ok (.aload_n 3, 1) := by decide +kernel
theorem dX7_mend_32 : decode cX7_mend 32 = .ok (.iload_n 2, 1) := by decide +kernel
theorem dX7_mend_33 : decode cX7_mend 33 = .ok (.putfield 105, 3) := by decide +kernel
theorem dX7_mend_36 : decode cX7_mend 36 = .ok (.iconst 1, 1) := by decide +kernel
theorem dX7_mend_37 : decode cX7_mend 37 = .ok (.ireturn, 1) := by decide +kernel
theorem dX7_dredge_0 : decode cX7_dredge 0 = .ok (.aload_n 0, 1) := by decide +kernel
theorem dX7_dredge_1 : decode cX7_dredge 1 = .ok (.iload_n 1, 1) := by decide +kernel
theorem dX7_dredge_2 : decode cX7_dredge 2 = .ok (.invokevirtual 91, 3) := by decide +kernel
theorem dX7_dredge_5 : decode cX7_dredge 5 = .ok (.astore_n 3, 1) := by decide +kernel
theorem dX7_dredge_6 : decode cX7_dredge 6 = .ok (.aload_n 3, 1) := by decide +kernel
theorem dX7_dredge_7 : decode cX7_dredge 7 = .ok (.ifnull 15, 3) := by decide +kernel
theorem dX7_dredge_10 : decode cX7_dredge 10 = .ok (.iload_n 2, 1) := by decide +kernel
theorem dX7_dredge_11 : decode cX7_dredge 11 = .ok (.iconst 1, 1) := by decide +kernel
theorem dX7_dredge_12 : decode cX7_dredge 12 = .ok (.aload_n 3, 1) := by decide +kernel
theorem dX7_dredge_13 : decode cX7_dredge 13 = .ok (.getfield 135, 3) := by decide +kernel
theorem dX7_dredge_16 : decode cX7_dredge 16 = .ok (.invokestatic 95, 3) := by decide +kernel
theorem dX7_dredge_19 : decode cX7_dredge 19 = .ok (.ifCond .ne 5, 3) := by decide +kernel
theorem dX7_dredge_22 : decode cX7_dredge 22 = .ok (.iconst (-1), 1) := by decide +kernel
theorem dX7_dredge_23 : decode cX7_dredge 23 = .ok (.ireturn, 1) := by decide +kernel
theorem dX7_dredge_24 : decode cX7_dredge 24 = .ok (.aload_n 3, 1) := by decide +kernel
theorem dX7_dredge_25 : decode cX7_dredge 25 = .ok (.dup, 1) := by decide +kernel
theorem dX7_dredge_26 : decode cX7_dredge 26 = .ok (.getfield 135, 3) := by decide +kernel
theorem dX7_dredge_29 : decode cX7_dredge 29 = .ok (.iload_n 2, 1) := by decide +kernel
theorem dX7_dredge_30 : decode cX7_dredge 30 = .ok (.isub, 1) := by decide +kernel
theorem dX7_dredge_31 : decode cX7_dredge 31 = .ok (.putfield 135, 3) := by decide +kernel
theorem dX7_dredge_34 : decode cX7_dredge 34 = .ok (.aload_n 3, 1) := by decide +kernel
theorem dX7_dredge_35 : decode cX7_dredge 35 = .ok (.getfield 135, 3) := by decide +kernel
theorem dX7_dredge_38 : decode cX7_dredge 38 = .ok (.ireturn, 1) := by decide +kernel
theorem dX7_feed_0 : decode cX7_feed 0 = .ok (.aload_n 0, 1) := by decide +kernel
theorem dX7_feed_1 : decode cX7_feed 1 = .ok (.getfield 18, 3) := by decide +kernel
theorem dX7_feed_4 : decode cX7_feed 4 = .ok (.getfield 138, 3) := by decide +kernel
theorem dX7_feed_7 : decode cX7_feed 7 = .ok (.bipush 20, 2) := by decide +kernel
theorem dX7_feed_9 : decode cX7_feed 9 = .ok (.iadd, 1) := by decide +kernel
theorem dX7_feed_10 : decode cX7_feed 10 = .ok (.sipush 300, 3) := by decide +kernel
theorem dX7_feed_13 : decode cX7_feed 13 = .ok (.if_icmp .le 5, 3) := by decide +kernel
theorem dX7_feed_16 : decode cX7_feed 16 = .ok (.iconst (-1), 1) := by decide +kernel
theorem dX7_feed_17 : decode cX7_feed 17 = .ok (.ireturn, 1) := by decide +kernel
theorem dX7_feed_18 : decode cX7_feed 18 = .ok (.aload_n 0, 1) := by decide +kernel
theorem dX7_feed_19 : decode cX7_feed 19 = .ok (.getfield 18, 3) := by decide +kernel
theorem dX7_feed_22 : decode cX7_feed 22 = .ok (.iload_n 1, 1) := by decide +kernel
theorem dX7_feed_23 : decode cX7_feed 23 = .ok (.invokevirtual 141, 3) := by decide +kernel
theorem dX7_feed_26 : decode cX7_feed 26 = .ok (.aload_n 0, 1) := by decide +kernel
theorem dX7_feed_27 : decode cX7_feed 27 = .ok (.getfield 18, 3) := by decide +kernel
theorem dX7_feed_30 : decode cX7_feed 30 = .ok (.iload_n 2, 1) := by decide +kernel
theorem dX7_feed_31 : decode cX7_feed 31 = .ok (.invokevirtual 141, 3) := by decide +kernel
theorem dX7_feed_34 : decode cX7_feed 34 = .ok (.aload_n 0, 1) := by decide +kernel
theorem dX7_feed_35 : decode cX7_feed 35 = .ok (.getfield 18, 3) := by decide +kernel
theorem dX7_feed_38 : decode cX7_feed 38 = .ok (.iload_n 3, 1) := by decide +kernel
theorem dX7_feed_39 : decode cX7_feed 39 = .ok (.invokevirtual 141, 3) := by decide +kernel
theorem dX7_feed_42 : decode cX7_feed 42 = .ok (.aload_n 0, 1) := by decide +kernel
theorem dX7_feed_43 : decode cX7_feed 43 = .ok (.getfield 18, 3) := by decide +kernel
theorem dX7_feed_46 : decode cX7_feed 46 = .ok (.iload 4, 2) := by decide +kernel
theorem dX7_feed_48 : decode cX7_feed 48 = .ok (.invokevirtual 141, 3) := by decide +kernel
theorem dX7_feed_51 : decode cX7_feed 51 = .ok (.aload_n 0, 1) := by decide +kernel
theorem dX7_feed_52 : decode cX7_feed 52 = .ok (.getfield 18, 3) := by decide +kernel
theorem dX7_feed_55 : decode cX7_feed 55 = .ok (.iload 5, 2) := by decide +kernel
theorem dX7_feed_57 : decode cX7_feed 57 = .ok (.invokevirtual 141, 3) := by decide +kernel
theorem dX7_feed_60 : decode cX7_feed 60 = .ok (.aload_n 0, 1) := by decide +kernel
theorem dX7_feed_61 : decode cX7_feed 61 = .ok (.getfield 18, 3) := by decide +kernel
theorem dX7_feed_64 : decode cX7_feed 64 = .ok (.getfield 138, 3) := by decide +kernel
theorem dX7_feed_67 : decode cX7_feed 67 = .ok (.ireturn, 1) := by decide +kernel
theorem dX7_custom_0 : decode cX7_custom 0 = .ok (.iload_n 1, 1) := by decide +kernel
theorem dX7_custom_1 : decode cX7_custom 1 = .ok (.iconst 0, 1) := by decide +kernel
theorem dX7_custom_2 : decode cX7_custom 2 = .ok (.aload_n 0, 1) := by decide +kernel
theorem dX7_custom_3 : decode cX7_custom 3 = .ok (.getfield 18, 3) := by decide +kernel
theorem dX7_custom_6 : decode cX7_custom 6 = .ok (.getfield 138, 3) := by decide +kernel
theorem dX7_custom_9 : decode cX7_custom 9 = .ok (.invokestatic 95, 3) := by decide +kernel
theorem dX7_custom_12 : decode cX7_custom 12 = .ok (.ifCond .ne 6, 3) := by decide +kernel
theorem dX7_custom_15 : decode cX7_custom 15 = .ok (.bipush (-2), 2) := by decide +kernel
theorem dX7_custom_17 : decode cX7_custom 17 = .ok (.ireturn, 1) := by decide +kernel
theorem dX7_custom_18 : decode cX7_custom 18 = .ok (.aload_n 0, 1) := by decide +kernel
theorem dX7_custom_19 : decode cX7_custom 19 = .ok (.aload_n 0, 1) := by decide +kernel
theorem dX7_custom_20 : decode cX7_custom 20 = .ok (.getfield 18, 3) := by decide +kernel
theorem dX7_custom_23 : decode cX7_custom 23 = .ok (.aload_n 0, 1) := by decide +kernel
theorem dX7_custom_24 : decode cX7_custom 24 = .ok (.getfield 29, 3) := by decide +kernel
theorem dX7_custom_27 : decode cX7_custom 27 = .ok (.iload_n 1, 1) := by decide +kernel
theorem dX7_custom_28 : decode cX7_custom 28 = .ok (.invokevirtual 145, 3) := by decide +kernel
theorem dX7_custom_31 : decode cX7_custom 31 = .ok (.putfield 52, 3) := by decide +kernel
theorem dX7_custom_34 : decode cX7_custom 34 = .ok (.aload_n 0, 1) := by decide +kernel
theorem dX7_custom_35 : decode cX7_custom 35 = .ok (.getfield 18, 3) := by decide +kernel
theorem dX7_custom_38 : decode cX7_custom 38 = .ok (.iconst 0, 1) := by decide +kernel
theorem dX7_custom_39 : decode cX7_custom 39 = .ok (.putfield 138, 3) := by decide +kernel
theorem dX7_custom_42 : decode cX7_custom 42 = .ok (.aload_n 0, 1) := by decide +kernel
theorem dX7_custom_43 : decode cX7_custom 43 = .ok (.getfield 52, 3) := by decide +kernel
theorem dX7_custom_46 : decode cX7_custom 46 = .ok (.iconst (-1), 1) := by decide +kernel
theorem dX7_custom_47 : decode cX7_custom 47 = .ok (.if_icmp .eq 5, 3) := by decide +kernel
theorem dX7_custom_50 : decode cX7_custom 50 = .ok (.iconst (-1), 1) := by decide +kernel
theorem dX7_custom_51 : decode cX7_custom 51 = .ok (.ireturn, 1) := by decide +kernel
theorem dX7_custom_52 : decode cX7_custom 52 = .ok (.aload_n 0, 1) := by decide +kernel
theorem dX7_custom_53 : decode cX7_custom 53 = .ok (.getfield 25, 3) := by decide +kernel
theorem dX7_custom_56 : decode cX7_custom 56 = .ok (.aload_n 0, 1) := by decide +kernel
theorem dX7_custom_57 : decode cX7_custom 57 = .ok (.getfield 29, 3) := by decide +kernel
theorem dX7_custom_60 : decode cX7_custom 60 = .ok (.invokevirtual 149, 3) := by decide +kernel
theorem dX7_custom_63 : decode cX7_custom 63 = .ok (.aload_n 0, 1) := by decide +kernel
theorem dX7_custom_64 : decode cX7_custom 64 = .ok (.invokevirtual 153, 3) := by decide +kernel
theorem dX7_custom_67 : decode cX7_custom 67 = .ok (.aload_n 0, 1) := by decide +kernel
theorem dX7_custom_68 : decode cX7_custom 68 = .ok (.getfield 25, 3) := by decide +kernel
theorem dX7_custom_71 : decode cX7_custom 71 = .ok (.getfield 156, 3) := by decide +kernel
theorem dX7_custom_74 : decode cX7_custom 74 = .ok (.ireturn, 1) := by decide +kernel
theorem dX7_fault_0 : decode cX7_fault 0 = .ok (.aload_n 0, 1) := by decide +kernel
theorem dX7_fault_1 : decode cX7_fault 1 = .ok (.getfield 52, 3) := by decide +kernel
theorem dX7_fault_4 : decode cX7_fault 4 = .ok (.ireturn, 1) := by decide +kernel
theorem dX7_day_0 : decode cX7_day 0 = .ok (.iload_n 1, 1) := by decide +kernel
theorem dX7_day_1 : decode cX7_day 1 = .ok (.iconst (-1), 1) := by decide +kernel
theorem dX7_day_2 : decode cX7_day 2 = .ok (.if_icmp .eq 13, 3) := by decide +kernel
theorem dX7_day_5 : decode cX7_day 5 = .ok (.iload_n 1, 1) := by decide +kernel
theorem dX7_day_6 : decode cX7_day 6 = .ok (.iconst 0, 1) := by decide +kernel
theorem dX7_day_7 : decode cX7_day 7 = .ok (.bipush 50, 2) := by decide +kernel
theorem dX7_day_9 : decode cX7_day 9 = .ok (.invokestatic 95, 3) := by decide +kernel
theorem dX7_day_12 : decode cX7_day 12 = .ok (.ifCond .eq 7, 3) := by decide +kernel
theorem dX7_day_15 : decode cX7_day 15 = .ok (.iconst 1, 1) := by decide +kernel
theorem dX7_day_16 : decode cX7_day 16 = .ok (.goto 4, 3) := by decide +kernel
theorem dX7_day_19 : decode cX7_day 19 = .ok (.iconst 0, 1) := by decide +kernel
theorem dX7_day_20 : decode cX7_day 20 = .ok (.istore_n 2, 1) := by decide +kernel
theorem dX7_day_21 : decode cX7_day 21 = .ok (.iload_n 2, 1) := by decide +kernel
theorem dX7_day_22 : decode cX7_day 22 = .ok (.ifCond .eq 13, 3) := by decide +kernel
theorem dX7_day_25 : decode cX7_day 25 = .ok (.aload_n 0, 1) := by decide +kernel
theorem dX7_day_26 : decode cX7_day 26 = .ok (.getfield 43, 3) := by decide +kernel
theorem dX7_day_29 : decode cX7_day 29 = .ok (.sipush 1000, 3) := by decide +kernel
theorem dX7_day_32 : decode cX7_day 32 = .ok (.if_icmp .lt 5, 3) := by decide +kernel
theorem dX7_day_35 : decode cX7_day 35 = .ok (.iconst (-1), 1) := by decide +kernel
theorem dX7_day_36 : decode cX7_day 36 = .ok (.ireturn, 1) := by decide +kernel
theorem dX7_day_37 : decode cX7_day 37 = .ok (.iload_n 1, 1) := by decide +kernel
theorem dX7_day_38 : decode cX7_day 38 = .ok (.iconst (-1), 1) := by decide +kernel
theorem dX7_day_39 : decode cX7_day 39 = .ok (.if_icmp .eq 8, 3) := by decide +kernel
theorem dX7_day_42 : decode cX7_day 42 = .ok (.aload_n 0, 1) := by decide +kernel
theorem dX7_day_43 : decode cX7_day 43 = .ok (.iload_n 1, 1) := by decide +kernel
theorem dX7_day_44 : decode cX7_day 44 = .ok (.putfield 46, 3) := by decide +kernel
theorem dX7_day_47 : decode cX7_day 47 = .ok (.aload_n 0, 1) := by decide +kernel
theorem dX7_day_48 : decode cX7_day 48 = .ok (.getfield 43, 3) := by decide +kernel
theorem dX7_day_51 : decode cX7_day 51 = .ok (.iconst 1, 1) := by decide +kernel
theorem dX7_day_52 : decode cX7_day 52 = .ok (.iadd, 1) := by decide +kernel
theorem dX7_day_53 : decode cX7_day 53 = .ok (.bipush 100, 2) := by decide +kernel
theorem dX7_day_55 : decode cX7_day 55 = .ok (.irem, 1) := by decide +kernel
theorem dX7_day_56 : decode cX7_day 56 = .ok (.ifCond .ne 7, 3) := by decide +kernel
theorem dX7_day_59 : decode cX7_day 59 = .ok (.aload_n 0, 1) := by decide +kernel
theorem dX7_day_60 : decode cX7_day 60 = .ok (.invokevirtual 159, 3) := by decide +kernel
theorem dX7_day_63 : decode cX7_day 63 = .ok (.aload_n 0, 1) := by decide +kernel
theorem dX7_day_64 : decode cX7_day 64 = .ok (.getfield 87, 3) := by decide +kernel
theorem dX7_day_67 : decode cX7_day 67 = .ok (.invokevirtual 162, 3) := by decide +kernel
theorem dX7_day_70 : decode cX7_day 70 = .ok (.aload_n 0, 1) := by decide +kernel
theorem dX7_day_71 : decode cX7_day 71 = .ok (.getfield 87, 3) := by decide +kernel
theorem dX7_day_74 : decode cX7_day 74 = .ok (.aload_n 0, 1) := by decide +kernel
theorem dX7_day_75 : decode cX7_day 75 = .ok (.getfield 46, 3) := by decide +kernel
theorem dX7_day_78 : decode cX7_day 78 = .ok (.invokevirtual 165, 3) := by decide +kernel
theorem dX7_day_81 : decode cX7_day 81 = .ok (.aload_n 0, 1) := by decide +kernel
theorem dX7_day_82 : decode cX7_day 82 = .ok (.invokevirtual 168, 3) := by decide +kernel
theorem dX7_day_85 : decode cX7_day 85 = .ok (.aload_n 0, 1) := by decide +kernel
theorem dX7_day_86 : decode cX7_day 86 = .ok (.invokevirtual 171, 3) := by decide +kernel
theorem dX7_day_89 : decode cX7_day 89 = .ok (.aload_n 0, 1) := by decide +kernel
theorem dX7_day_90 : decode cX7_day 90 = .ok (.getfield 35, 3) := by decide +kernel
theorem dX7_day_93 : decode cX7_day 93 = .ok (.aload_n 0, 1) := by decide +kernel
theorem dX7_day_94 : decode cX7_day 94 = .ok (.getfield 87, 3) := by decide +kernel
theorem dX7_day_97 : decode cX7_day 97 = .ok (.getfield 174, 3) := by decide +kernel
theorem dX7_day_100 : decode cX7_day 100 = .ok (.invokevirtual 177, 3) := by decide +kernel
theorem dX7_day_103 : decode cX7_day 103 = .ok (.aload_n 0, 1) := by decide +kernel
theorem dX7_day_104 : decode cX7_day 104 = .ok (.dup, 1) := by decide +kernel
theorem dX7_day_105 : decode cX7_day 105 = .ok (.getfield 43, 3) := by decide +kernel
theorem dX7_day_108 : decode cX7_day 108 = .ok (.iconst 1, 1) := by decide +kernel
theorem dX7_day_109 : decode cX7_day 109 = .ok (.iadd, 1) := by decide +kernel
theorem dX7_day_110 : decode cX7_day 110 = .ok (.putfield 43, 3) := by decide +kernel
theorem dX7_day_113 : decode cX7_day 113 = .ok (.aload_n 0, 1) := by decide +kernel
theorem dX7_day_114 : decode cX7_day 114 = .ok (.getfield 43, 3) := by decide +kernel
theorem dX7_day_117 : decode cX7_day 117 = .ok (.ireturn, 1) := by decide +kernel
theorem dX7_told_0 : decode cX7_told 0 = .ok (.aload_n 0, 1) := by decide +kernel
theorem dX7_told_1 : decode cX7_told 1 = .ok (.iload_n 1, 1) := by decide +kernel
theorem dX7_told_2 : decode cX7_told 2 = .ok (.invokevirtual 91, 3) := by decide +kernel
theorem dX7_told_5 : decode cX7_told 5 = .ok (.astore_n 3, 1) := by decide +kernel
theorem dX7_told_6 : decode cX7_told 6 = .ok (.aload_n 3, 1) := by decide +kernel
theorem dX7_told_7 : decode cX7_told 7 = .ok (.ifnonnull 5, 3) := by decide +kernel
theorem dX7_told_10 : decode cX7_told 10 = .ok (.iconst (-1), 1) := by decide +kernel
theorem dX7_told_11 : decode cX7_told 11 = .ok (.ireturn, 1) := by decide +kernel
theorem dX7_told_12 : decode cX7_told 12 = .ok (.iload_n 2, 1) := by decide +kernel
theorem dX7_told_13 : decode cX7_told 13 = .ok (.tableswitch 158 0 11 #[63, 68, 73, 78, 86, 94, 99, 110, 122, 130, 138, 143], 63) := by decide +kernel
theorem dX7_told_76 : decode cX7_told 76 = .ok (.aload_n 3, 1) := by decide +kernel
theorem dX7_told_77 : decode cX7_told 77 = .ok (.getfield 99, 3) := by decide +kernel
theorem dX7_told_80 : decode cX7_told 80 = .ok (.ireturn, 1) := by decide +kernel
theorem dX7_told_81 : decode cX7_told 81 = .ok (.aload_n 3, 1) := by decide +kernel
theorem dX7_told_82 : decode cX7_told 82 = .ok (.getfield 102, 3) := by decide +kernel
theorem dX7_told_85 : decode cX7_told 85 = .ok (.ireturn, 1) := by decide +kernel
theorem dX7_told_86 : decode cX7_told 86 = .ok (.aload_n 3, 1) := by decide +kernel
theorem dX7_told_87 : decode cX7_told 87 = .ok (.getfield 105, 3) := by decide +kernel
theorem dX7_told_90 : decode cX7_told 90 = .ok (.ireturn, 1) := by decide +kernel
theorem dX7_told_91 : decode cX7_told 91 = .ok (.aload_n 3, 1) := by decide +kernel
theorem dX7_told_92 : decode cX7_told 92 = .ok (.getfield 108, 3) := by decide +kernel
theorem dX7_told_95 : decode cX7_told 95 = .ok (.getfield 122, 3) := by decide +kernel
theorem dX7_told_98 : decode cX7_told 98 = .ok (.ireturn, 1) := by decide +kernel
theorem dX7_told_99 : decode cX7_told 99 = .ok (.aload_n 3, 1) := by decide +kernel
theorem dX7_told_100 : decode cX7_told 100 = .ok (.getfield 108, 3) := by decide +kernel
theorem dX7_told_103 : decode cX7_told 103 = .ok (.getfield 132, 3) := by decide +kernel
theorem dX7_told_106 : decode cX7_told 106 = .ok (.ireturn, 1) := by decide +kernel
theorem dX7_told_107 : decode cX7_told 107 = .ok (.aload_n 3, 1) := by decide +kernel
theorem dX7_told_108 : decode cX7_told 108 = .ok (.getfield 135, 3) := by decide +kernel
theorem dX7_told_111 : decode cX7_told 111 = .ok (.ireturn, 1) := by decide +kernel
theorem dX7_told_112 : decode cX7_told 112 = .ok (.aload_n 3, 1) := by decide +kernel
theorem dX7_told_113 : decode cX7_told 113 = .ok (.getfield 108, 3) := by decide +kernel
theorem dX7_told_116 : decode cX7_told 116 = .ok (.getfield 112, 3) := by decide +kernel
theorem dX7_told_119 : decode cX7_told 119 = .ok (.invokestatic 181, 3) := by decide +kernel
theorem dX7_told_122 : decode cX7_told 122 = .ok (.ireturn, 1) := by decide +kernel
theorem dX7_told_123 : decode cX7_told 123 = .ok (.aload_n 3, 1) := by decide +kernel
theorem dX7_told_124 : decode cX7_told 124 = .ok (.aload_n 3, 1) := by decide +kernel
theorem dX7_told_125 : decode cX7_told 125 = .ok (.getfield 108, 3) := by decide +kernel
theorem dX7_told_128 : decode cX7_told 128 = .ok (.getfield 112, 3) := by decide +kernel
theorem dX7_told_131 : decode cX7_told 131 = .ok (.invokevirtual 118, 3) := by decide +kernel
theorem dX7_told_134 : decode cX7_told 134 = .ok (.ireturn, 1) := by decide +kernel
theorem dX7_told_135 : decode cX7_told 135 = .ok (.aload_n 3, 1) := by decide +kernel
theorem dX7_told_136 : decode cX7_told 136 = .ok (.getfield 108, 3) := by decide +kernel
theorem dX7_told_139 : decode cX7_told 139 = .ok (.getfield 184, 3) := by decide +kernel
theorem dX7_told_142 : decode cX7_told 142 = .ok (.ireturn, 1) := by decide +kernel
theorem dX7_told_143 : decode cX7_told 143 = .ok (.aload_n 3, 1) := by decide +kernel
theorem dX7_told_144 : decode cX7_told 144 = .ok (.getfield 108, 3) := by decide +kernel
theorem dX7_told_147 : decode cX7_told 147 = .ok (.getfield 187, 3) := by decide +kernel
theorem dX7_told_150 : decode cX7_told 150 = .ok (.ireturn, 1) := by decide +kernel
theorem dX7_told_151 : decode cX7_told 151 = .ok (.aload_n 3, 1) := by decide +kernel
theorem dX7_told_152 : decode cX7_told 152 = .ok (.getfield 190, 3) := by decide +kernel
theorem dX7_told_155 : decode cX7_told 155 = .ok (.ireturn, 1) := by decide +kernel
theorem dX7_told_156 : decode cX7_told 156 = .ok (.aload_n 3, 1) := by decide +kernel
theorem dX7_told_157 : decode cX7_told 157 = .ok (.aload_n 3, 1) := by decide +kernel
theorem dX7_told_158 : decode cX7_told 158 = .ok (.getfield 108, 3) := by decide +kernel
theorem dX7_told_161 : decode cX7_told 161 = .ok (.getfield 122, 3) := by decide +kernel
theorem dX7_told_164 : decode cX7_told 164 = .ok (.invokevirtual 193, 3) := by decide +kernel
theorem dX7_told_167 : decode cX7_told 167 = .ok (.invokestatic 181, 3) := by decide +kernel
theorem dX7_told_170 : decode cX7_told 170 = .ok (.ireturn, 1) := by decide +kernel
theorem dX7_told_171 : decode cX7_told 171 = .ok (.iconst (-1), 1) := by decide +kernel
theorem dX7_told_172 : decode cX7_told 172 = .ok (.ireturn, 1) := by decide +kernel
theorem dX7_fieldOf_0 : decode cX7_fieldOf 0 = .ok (.aload_n 0, 1) := by decide +kernel
theorem dX7_fieldOf_1 : decode cX7_fieldOf 1 = .ok (.iload_n 1, 1) := by decide +kernel
theorem dX7_fieldOf_2 : decode cX7_fieldOf 2 = .ok (.invokevirtual 197, 3) := by decide +kernel
theorem dX7_fieldOf_5 : decode cX7_fieldOf 5 = .ok (.astore_n 3, 1) := by decide +kernel
theorem dX7_fieldOf_6 : decode cX7_fieldOf 6 = .ok (.aload_n 3, 1) := by decide +kernel
theorem dX7_fieldOf_7 : decode cX7_fieldOf 7 = .ok (.ifnonnull 5, 3) := by decide +kernel
theorem dX7_fieldOf_10 : decode cX7_fieldOf 10 = .ok (.iconst (-1), 1) := by decide +kernel
theorem dX7_fieldOf_11 : decode cX7_fieldOf 11 = .ok (.ireturn, 1) := by decide +kernel
theorem dX7_fieldOf_12 : decode cX7_fieldOf 12 = .ok (.iload_n 2, 1) := by decide +kernel
theorem dX7_fieldOf_13 : decode cX7_fieldOf 13 = .ok (.tableswitch 90 0 7 #[47, 52, 57, 62, 67, 75, 80, 85], 47) := by decide +kernel
theorem dX7_fieldOf_60 : decode cX7_fieldOf 60 = .ok (.aload_n 3, 1) := by decide +kernel
theorem dX7_fieldOf_61 : decode cX7_fieldOf 61 = .ok (.getfield 201, 3) := by decide +kernel
theorem dX7_fieldOf_64 : decode cX7_fieldOf 64 = .ok (.ireturn, 1) := by decide +kernel
theorem dX7_fieldOf_65 : decode cX7_fieldOf 65 = .ok (.aload_n 3, 1) := by decide +kernel
theorem dX7_fieldOf_66 : decode cX7_fieldOf 66 = .ok (.getfield 204, 3) := by decide +kernel
theorem dX7_fieldOf_69 : decode cX7_fieldOf 69 = .ok (.ireturn, 1) := by decide +kernel
theorem dX7_fieldOf_70 : decode cX7_fieldOf 70 = .ok (.aload_n 3, 1) := by decide +kernel
theorem dX7_fieldOf_71 : decode cX7_fieldOf 71 = .ok (.getfield 207, 3) := by decide +kernel
theorem dX7_fieldOf_74 : decode cX7_fieldOf 74 = .ok (.ireturn, 1) := by decide +kernel
theorem dX7_fieldOf_75 : decode cX7_fieldOf 75 = .ok (.aload_n 3, 1) := by decide +kernel
theorem dX7_fieldOf_76 : decode cX7_fieldOf 76 = .ok (.getfield 210, 3) := by decide +kernel
theorem dX7_fieldOf_79 : decode cX7_fieldOf 79 = .ok (.ireturn, 1) := by decide +kernel
theorem dX7_fieldOf_80 : decode cX7_fieldOf 80 = .ok (.aload_n 3, 1) := by decide +kernel
theorem dX7_fieldOf_81 : decode cX7_fieldOf 81 = .ok (.getfield 213, 3) := by decide +kernel
theorem dX7_fieldOf_84 : decode cX7_fieldOf 84 = .ok (.invokestatic 181, 3) := by decide +kernel
theorem dX7_fieldOf_87 : decode cX7_fieldOf 87 = .ok (.ireturn, 1) := by decide +kernel
theorem dX7_fieldOf_88 : decode cX7_fieldOf 88 = .ok (.aload_n 3, 1) := by decide +kernel
theorem dX7_fieldOf_89 : decode cX7_fieldOf 89 = .ok (.getfield 216, 3) := by decide +kernel
theorem dX7_fieldOf_92 : decode cX7_fieldOf 92 = .ok (.ireturn, 1) := by decide +kernel
theorem dX7_fieldOf_93 : decode cX7_fieldOf 93 = .ok (.aload_n 3, 1) := by decide +kernel
theorem dX7_fieldOf_94 : decode cX7_fieldOf 94 = .ok (.getfield 219, 3) := by decide +kernel
theorem dX7_fieldOf_97 : decode cX7_fieldOf 97 = .ok (.ireturn, 1) := by decide +kernel
theorem dX7_fieldOf_98 : decode cX7_fieldOf 98 = .ok (.aload_n 3, 1) := by decide +kernel
theorem dX7_fieldOf_99 : decode cX7_fieldOf 99 = .ok (.getfield 222, 3) := by decide +kernel
theorem dX7_fieldOf_102 : decode cX7_fieldOf 102 = .ok (.ireturn, 1) := by decide +kernel
theorem dX7_fieldOf_103 : decode cX7_fieldOf 103 = .ok (.iconst (-1), 1) := by decide +kernel
theorem dX7_fieldOf_104 : decode cX7_fieldOf 104 = .ok (.ireturn, 1) := by decide +kernel
theorem dX7_order_0 : decode cX7_order 0 = .ok (.aload_n 0, 1) := by decide +kernel
theorem dX7_order_1 : decode cX7_order 1 = .ok (.iload_n 1, 1) := by decide +kernel
theorem dX7_order_2 : decode cX7_order 2 = .ok (.invokevirtual 91, 3) := by decide +kernel
theorem dX7_order_5 : decode cX7_order 5 = .ok (.astore_n 3, 1) := by decide +kernel
theorem dX7_order_6 : decode cX7_order 6 = .ok (.aload_n 3, 1) := by decide +kernel
theorem dX7_order_7 : decode cX7_order 7 = .ok (.ifnull 7, 3) := by decide +kernel
theorem dX7_order_10 : decode cX7_order 10 = .ok (.iload_n 2, 1) := by decide +kernel
theorem dX7_order_11 : decode cX7_order 11 = .ok (.ifCond .ge 5, 3) := by decide +kernel
theorem dX7_order_14 : decode cX7_order 14 = .ok (.iconst (-1), 1) := by decide +kernel
theorem dX7_order_15 : decode cX7_order 15 = .ok (.ireturn, 1) := by decide +kernel
theorem dX7_order_16 : decode cX7_order 16 = .ok (.iconst 0, 1) := by decide +kernel
theorem dX7_order_17 : decode cX7_order 17 = .ok (.istore 4, 2) := by decide +kernel
theorem dX7_order_19 : decode cX7_order 19 = .ok (.aload_n 3, 1) := by decide +kernel
theorem dX7_order_20 : decode cX7_order 20 = .ok (.getfield 225, 3) := by decide +kernel
theorem dX7_order_23 : decode cX7_order 23 = .ok (.astore 5, 2) := by decide +kernel
theorem dX7_order_25 : decode cX7_order 25 = .ok (.aload 5, 2) := by decide +kernel
theorem dX7_order_27 : decode cX7_order 27 = .ok (.ifnull 28, 3) := by decide +kernel
theorem dX7_order_30 : decode cX7_order 30 = .ok (.iload 4, 2) := by decide +kernel
theorem dX7_order_32 : decode cX7_order 32 = .ok (.iload_n 2, 1) := by decide +kernel
theorem dX7_order_33 : decode cX7_order 33 = .ok (.if_icmp .ne 9, 3) := by decide +kernel
theorem dX7_order_36 : decode cX7_order 36 = .ok (.aload 5, 2) := by decide +kernel
theorem dX7_order_38 : decode cX7_order 38 = .ok (.getfield 229, 3) := by decide +kernel
theorem dX7_order_41 : decode cX7_order 41 = .ok (.ireturn, 1) := by decide +kernel
theorem dX7_order_42 : decode cX7_order 42 = .ok (.iinc 4 1, 3) := by decide +kernel
theorem dX7_order_45 : decode cX7_order 45 = .ok (.aload 5, 2) := by decide +kernel
theorem dX7_order_47 : decode cX7_order 47 = .ok (.getfield 232, 3) := by decide +kernel
theorem dX7_order_50 : decode cX7_order 50 = .ok (.astore 5, 2) := by decide +kernel
theorem dX7_order_52 : decode cX7_order 52 = .ok (.goto (-27), 3) := by decide +kernel
theorem dX7_order_55 : decode cX7_order 55 = .ok (.iconst (-1), 1) := by decide +kernel
theorem dX7_order_56 : decode cX7_order 56 = .ok (.ireturn, 1) := by decide +kernel
theorem dX7_owner_0 : decode cX7_owner 0 = .ok (.iload_n 1, 1) := by decide +kernel
theorem dX7_owner_1 : decode cX7_owner 1 = .ok (.iconst 0, 1) := by decide +kernel
theorem dX7_owner_2 : decode cX7_owner 2 = .ok (.bipush 9, 2) := by decide +kernel
theorem dX7_owner_4 : decode cX7_owner 4 = .ok (.invokestatic 95, 3) := by decide +kernel
theorem dX7_owner_7 : decode cX7_owner 7 = .ok (.ifCond .ne 5, 3) := by decide +kernel
theorem dX7_owner_10 : decode cX7_owner 10 = .ok (.iconst (-1), 1) := by decide +kernel
theorem dX7_owner_11 : decode cX7_owner 11 = .ok (.ireturn, 1) := by decide +kernel
theorem dX7_owner_12 : decode cX7_owner 12 = .ok (.iconst 0, 1) := by decide +kernel
theorem dX7_owner_13 : decode cX7_owner 13 = .ok (.istore_n 2, 1) := by decide +kernel
theorem dX7_owner_14 : decode cX7_owner 14 = .ok (.iconst 0, 1) := by decide +kernel
theorem dX7_owner_15 : decode cX7_owner 15 = .ok (.istore_n 3, 1) := by decide +kernel
theorem dX7_owner_16 : decode cX7_owner 16 = .ok (.iload_n 3, 1) := by decide +kernel
theorem dX7_owner_17 : decode cX7_owner 17 = .ok (.aload_n 0, 1) := by decide +kernel
theorem dX7_owner_18 : decode cX7_owner 18 = .ok (.getfield 39, 3) := by decide +kernel
theorem dX7_owner_21 : decode cX7_owner 21 = .ok (.if_icmp .ge 44, 3) := by decide +kernel
theorem dX7_owner_24 : decode cX7_owner 24 = .ok (.aload_n 0, 1) := by decide +kernel
theorem dX7_owner_25 : decode cX7_owner 25 = .ok (.iload_n 3, 1) := by decide +kernel
theorem dX7_owner_26 : decode cX7_owner 26 = .ok (.invokevirtual 197, 3) := by decide +kernel
theorem dX7_owner_29 : decode cX7_owner 29 = .ok (.astore 4, 2) := by decide +kernel
theorem dX7_owner_31 : decode cX7_owner 31 = .ok (.aload 4, 2) := by decide +kernel
theorem dX7_owner_33 : decode cX7_owner 33 = .ok (.ifnull 26, 3) := by decide +kernel
theorem dX7_owner_36 : decode cX7_owner 36 = .ok (.aload 4, 2) := by decide +kernel
theorem dX7_owner_38 : decode cX7_owner 38 = .ok (.getfield 210, 3) := by decide +kernel
theorem dX7_owner_41 : decode cX7_owner 41 = .ok (.iload_n 1, 1) := by decide +kernel
theorem dX7_owner_42 : decode cX7_owner 42 = .ok (.if_icmp .ne 17, 3) := by decide +kernel
theorem dX7_owner_45 : decode cX7_owner 45 = .ok (.iload_n 2, 1) := by decide +kernel
theorem dX7_owner_46 : decode cX7_owner 46 = .ok (.aload 4, 2) := by decide +kernel
theorem dX7_owner_48 : decode cX7_owner 48 = .ok (.getfield 207, 3) := by decide +kernel
theorem dX7_owner_51 : decode cX7_owner 51 = .ok (.aload 4, 2) := by decide +kernel
theorem dX7_owner_53 : decode cX7_owner 53 = .ok (.getfield 216, 3) := by decide +kernel
theorem dX7_owner_56 : decode cX7_owner 56 = .ok (.imul, 1) := by decide +kernel
theorem dX7_owner_57 : decode cX7_owner 57 = .ok (.iadd, 1) := by decide +kernel
theorem dX7_owner_58 : decode cX7_owner 58 = .ok (.istore_n 2, 1) := by decide +kernel
theorem dX7_owner_59 : decode cX7_owner 59 = .ok (.iinc 3 1, 3) := by decide +kernel
theorem dX7_owner_62 : decode cX7_owner 62 = .ok (.goto (-46), 3) := by decide +kernel
theorem dX7_owner_65 : decode cX7_owner 65 = .ok (.iload_n 2, 1) := by decide +kernel
theorem dX7_owner_66 : decode cX7_owner 66 = .ok (.ireturn, 1) := by decide +kernel
theorem dX7_tried_0 : decode cX7_tried 0 = .ok (.aload_n 0, 1) := by decide +kernel
theorem dX7_tried_1 : decode cX7_tried 1 = .ok (.iload_n 1, 1) := by decide +kernel
theorem dX7_tried_2 : decode cX7_tried 2 = .ok (.invokevirtual 91, 3) := by decide +kernel
theorem dX7_tried_5 : decode cX7_tried 5 = .ok (.astore 4, 2) := by decide +kernel
theorem dX7_tried_7 : decode cX7_tried 7 = .ok (.aload 4, 2) := by decide +kernel
theorem dX7_tried_9 : decode cX7_tried 9 = .ok (.ifnull 11, 3) := by decide +kernel
theorem dX7_tried_12 : decode cX7_tried 12 = .ok (.iload_n 2, 1) := by decide +kernel
theorem dX7_tried_13 : decode cX7_tried 13 = .ok (.iload_n 3, 1) := by decide +kernel
theorem dX7_tried_14 : decode cX7_tried 14 = .ok (.invokestatic 235, 3) := by decide +kernel
theorem dX7_tried_17 : decode cX7_tried 17 = .ok (.ifCond .ne 5, 3) := by decide +kernel
theorem dX7_tried_20 : decode cX7_tried 20 = .ok (.iconst (-1), 1) := by decide +kernel
theorem dX7_tried_21 : decode cX7_tried 21 = .ok (.ireturn, 1) := by decide +kernel
theorem dX7_tried_22 : decode cX7_tried 22 = .ok (.aload_n 0, 1) := by decide +kernel
theorem dX7_tried_23 : decode cX7_tried 23 = .ok (.aload 4, 2) := by decide +kernel
theorem dX7_tried_25 : decode cX7_tried 25 = .ok (.aconst_null, 1) := by decide +kernel
theorem dX7_tried_26 : decode cX7_tried 26 = .ok (.iload_n 2, 1) := by decide +kernel
theorem dX7_tried_27 : decode cX7_tried 27 = .ok (.iload_n 3, 1) := by decide +kernel
theorem dX7_tried_28 : decode cX7_tried 28 = .ok (.invokevirtual 239, 3) := by decide +kernel
theorem dX7_tried_31 : decode cX7_tried 31 = .ok (.ireturn, 1) := by decide +kernel
theorem dX7_lost_0 : decode cX7_lost 0 = .ok (.aload_n 0, 1) := by decide +kernel
theorem dX7_lost_1 : decode cX7_lost 1 = .ok (.iload_n 1, 1) := by decide +kernel
theorem dX7_lost_2 : decode cX7_lost 2 = .ok (.invokevirtual 91, 3) := by decide +kernel
theorem dX7_lost_5 : decode cX7_lost 5 = .ok (.astore 5, 2) := by decide +kernel
theorem dX7_lost_7 : decode cX7_lost 7 = .ok (.aload_n 0, 1) := by decide +kernel
theorem dX7_lost_8 : decode cX7_lost 8 = .ok (.iload_n 2, 1) := by decide +kernel
theorem dX7_lost_9 : decode cX7_lost 9 = .ok (.invokevirtual 91, 3) := by decide +kernel
theorem dX7_lost_12 : decode cX7_lost 12 = .ok (.astore 6, 2) := by decide +kernel
theorem dX7_lost_14 : decode cX7_lost 14 = .ok (.aload 5, 2) := by decide +kernel
theorem dX7_lost_16 : decode cX7_lost 16 = .ok (.ifnull 22, 3) := by decide +kernel
theorem dX7_lost_19 : decode cX7_lost 19 = .ok (.aload 6, 2) := by decide +kernel
theorem dX7_lost_21 : decode cX7_lost 21 = .ok (.ifnull 17, 3) := by decide +kernel
theorem dX7_lost_24 : decode cX7_lost 24 = .ok (.iload_n 2, 1) := by decide +kernel
theorem dX7_lost_25 : decode cX7_lost 25 = .ok (.iload_n 1, 1) := by decide +kernel
theorem dX7_lost_26 : decode cX7_lost 26 = .ok (.if_icmp .le 12, 3) := by decide +kernel
theorem dX7_lost_29 : decode cX7_lost 29 = .ok (.iload_n 3, 1) := by decide +kernel
theorem dX7_lost_30 : decode cX7_lost 30 = .ok (.iload 4, 2) := by decide +kernel
theorem dX7_lost_32 : decode cX7_lost 32 = .ok (.invokestatic 235, 3) := by decide +kernel
theorem dX7_lost_35 : decode cX7_lost 35 = .ok (.ifCond .ne 6, 3) := by decide +kernel
theorem dX7_lost_38 : decode cX7_lost 38 = .ok (.ldc 243, 2) := by decide +kernel
theorem dX7_lost_40 : decode cX7_lost 40 = .ok (.ireturn, 1) := by decide +kernel
theorem dX7_lost_41 : decode cX7_lost 41 = .ok (.aload_n 0, 1) := by decide +kernel
theorem dX7_lost_42 : decode cX7_lost 42 = .ok (.aload 6, 2) := by decide +kernel
theorem dX7_lost_44 : decode cX7_lost 44 = .ok (.aload 5, 2) := by decide +kernel
theorem dX7_lost_46 : decode cX7_lost 46 = .ok (.iload_n 3, 1) := by decide +kernel
theorem dX7_lost_47 : decode cX7_lost 47 = .ok (.iload 4, 2) := by decide +kernel
theorem dX7_lost_49 : decode cX7_lost 49 = .ok (.invokevirtual 239, 3) := by decide +kernel
theorem dX7_lost_52 : decode cX7_lost 52 = .ok (.aload_n 0, 1) := by decide +kernel
theorem dX7_lost_53 : decode cX7_lost 53 = .ok (.aload 6, 2) := by decide +kernel
theorem dX7_lost_55 : decode cX7_lost 55 = .ok (.aconst_null, 1) := by decide +kernel
theorem dX7_lost_56 : decode cX7_lost 56 = .ok (.iload_n 3, 1) := by decide +kernel
theorem dX7_lost_57 : decode cX7_lost 57 = .ok (.iload 4, 2) := by decide +kernel
theorem dX7_lost_59 : decode cX7_lost 59 = .ok (.invokevirtual 239, 3) := by decide +kernel
theorem dX7_lost_62 : decode cX7_lost 62 = .ok (.isub, 1) := by decide +kernel
theorem dX7_lost_63 : decode cX7_lost 63 = .ok (.ireturn, 1) := by decide +kernel
theorem dX7_most_0 : decode cX7_most 0 = .ok (.aload_n 0, 1) := by decide +kernel
theorem dX7_most_1 : decode cX7_most 1 = .ok (.iload_n 1, 1) := by decide +kernel
theorem dX7_most_2 : decode cX7_most 2 = .ok (.invokevirtual 91, 3) := by decide +kernel
theorem dX7_most_5 : decode cX7_most 5 = .ok (.ifnull 47, 3) := by decide +kernel
theorem dX7_most_8 : decode cX7_most 8 = .ok (.iload_n 2, 1) := by decide +kernel
theorem dX7_most_9 : decode cX7_most 9 = .ok (.iconst 1, 1) := by decide +kernel
theorem dX7_most_10 : decode cX7_most 10 = .ok (.iconst 3, 1) := by decide +kernel
theorem dX7_most_11 : decode cX7_most 11 = .ok (.invokestatic 95, 3) := by decide +kernel
theorem dX7_most_14 : decode cX7_most 14 = .ok (.ifCond .eq 38, 3) := by decide +kernel
theorem dX7_most_17 : decode cX7_most 17 = .ok (.aload_n 0, 1) := by decide +kernel
theorem dX7_most_18 : decode cX7_most 18 = .ok (.iload_n 1, 1) := by decide +kernel
theorem dX7_most_19 : decode cX7_most 19 = .ok (.iload_n 2, 1) := by decide +kernel
theorem dX7_most_20 : decode cX7_most 20 = .ok (.iadd, 1) := by decide +kernel
theorem dX7_most_21 : decode cX7_most 21 = .ok (.iconst 1, 1) := by decide +kernel
theorem dX7_most_22 : decode cX7_most 22 = .ok (.isub, 1) := by decide +kernel
theorem dX7_most_23 : decode cX7_most 23 = .ok (.invokevirtual 91, 3) := by decide +kernel
theorem dX7_most_26 : decode cX7_most 26 = .ok (.ifnull 26, 3) := by decide +kernel
theorem dX7_most_29 : decode cX7_most 29 = .ok (.iload_n 3, 1) := by decide +kernel
theorem dX7_most_30 : decode cX7_most 30 = .ok (.iload 4, 2) := by decide +kernel
theorem dX7_most_32 : decode cX7_most 32 = .ok (.invokestatic 235, 3) := by decide +kernel
theorem dX7_most_35 : decode cX7_most 35 = .ok (.ifCond .eq 17, 3) := by decide +kernel
theorem dX7_most_38 : decode cX7_most 38 = .ok (.iload 5, 2) := by decide +kernel
theorem dX7_most_40 : decode cX7_most 40 = .ok (.iconst 0, 1) := by decide +kernel
theorem dX7_most_41 : decode cX7_most 41 = .ok (.iload_n 2, 1) := by decide +kernel
theorem dX7_most_42 : decode cX7_most 42 = .ok (.invokestatic 95, 3) := by decide +kernel
theorem dX7_most_45 : decode cX7_most 45 = .ok (.ifCond .eq 7, 3) := by decide +kernel
theorem dX7_most_48 : decode cX7_most 48 = .ok (.iconst 1, 1) := by decide +kernel
theorem dX7_most_49 : decode cX7_most 49 = .ok (.goto 4, 3) := by decide +kernel
theorem dX7_most_52 : decode cX7_most 52 = .ok (.iconst 0, 1) := by decide +kernel
theorem dX7_most_53 : decode cX7_most 53 = .ok (.istore 6, 2) := by decide +kernel
theorem dX7_most_55 : decode cX7_most 55 = .ok (.iload 6, 2) := by decide +kernel
theorem dX7_most_57 : decode cX7_most 57 = .ok (.ifCond .ne 5, 3) := by decide +kernel
theorem dX7_most_60 : decode cX7_most 60 = .ok (.iconst (-1), 1) := by decide +kernel
theorem dX7_most_61 : decode cX7_most 61 = .ok (.ireturn, 1) := by decide +kernel
theorem dX7_most_62 : decode cX7_most 62 = .ok (.iconst 1, 1) := by decide +kernel
theorem dX7_most_63 : decode cX7_most 63 = .ok (.istore 7, 2) := by decide +kernel
theorem dX7_most_65 : decode cX7_most 65 = .ok (.iconst 0, 1) := by decide +kernel
theorem dX7_most_66 : decode cX7_most 66 = .ok (.istore 8, 2) := by decide +kernel
theorem dX7_most_68 : decode cX7_most 68 = .ok (.iload 8, 2) := by decide +kernel
theorem dX7_most_70 : decode cX7_most 70 = .ok (.iload_n 2, 1) := by decide +kernel
theorem dX7_most_71 : decode cX7_most 71 = .ok (.if_icmp .ge 15, 3) := by decide +kernel
theorem dX7_most_74 : decode cX7_most 74 = .ok (.iload 7, 2) := by decide +kernel
theorem dX7_most_76 : decode cX7_most 76 = .ok (.iconst 5, 1) := by decide +kernel
theorem dX7_most_77 : decode cX7_most 77 = .ok (.imul, 1) := by decide +kernel
theorem dX7_most_78 : decode cX7_most 78 = .ok (.istore 7, 2) := by decide +kernel
theorem dX7_most_80 : decode cX7_most 80 = .ok (.iinc 8 1, 3) := by decide +kernel
theorem dX7_most_83 : decode cX7_most 83 = .ok (.goto (-15), 3) := by decide +kernel
theorem dX7_most_86 : decode cX7_most 86 = .ok (.iconst (-1), 1) := by decide +kernel
theorem dX7_most_87 : decode cX7_most 87 = .ok (.istore 8, 2) := by decide +kernel
theorem dX7_most_89 : decode cX7_most 89 = .ok (.iconst 0, 1) := by decide +kernel
theorem dX7_most_90 : decode cX7_most 90 = .ok (.istore 9, 2) := by decide +kernel
theorem dX7_most_92 : decode cX7_most 92 = .ok (.iconst 0, 1) := by decide +kernel
theorem dX7_most_93 : decode cX7_most 93 = .ok (.istore 10, 2) := by decide +kernel
theorem dX7_most_95 : decode cX7_most 95 = .ok (.iload 10, 2) := by decide +kernel
theorem dX7_most_97 : decode cX7_most 97 = .ok (.iload 7, 2) := by decide +kernel
theorem dX7_most_99 : decode cX7_most 99 = .ok (.if_icmp .ge 37, 3) := by decide +kernel
theorem dX7_most_102 : decode cX7_most 102 = .ok (.aload_n 0, 1) := by decide +kernel
theorem dX7_most_103 : decode cX7_most 103 = .ok (.iload 10, 2) := by decide +kernel
theorem dX7_most_105 : decode cX7_most 105 = .ok (.iload_n 1, 1) := by decide +kernel
theorem dX7_most_106 : decode cX7_most 106 = .ok (.iload_n 2, 1) := by decide +kernel
theorem dX7_most_107 : decode cX7_most 107 = .ok (.iload_n 3, 1) := by decide +kernel
theorem dX7_most_108 : decode cX7_most 108 = .ok (.iload 4, 2) := by decide +kernel
theorem dX7_most_110 : decode cX7_most 110 = .ok (.invokevirtual 244, 3) := by decide +kernel
theorem dX7_most_113 : decode cX7_most 113 = .ok (.istore 11, 2) := by decide +kernel
theorem dX7_most_115 : decode cX7_most 115 = .ok (.iload 11, 2) := by decide +kernel
theorem dX7_most_117 : decode cX7_most 117 = .ok (.iload 8, 2) := by decide +kernel
theorem dX7_most_119 : decode cX7_most 119 = .ok (.if_icmp .le 11, 3) := by decide +kernel
theorem dX7_most_122 : decode cX7_most 122 = .ok (.iload 11, 2) := by decide +kernel
theorem dX7_most_124 : decode cX7_most 124 = .ok (.istore 8, 2) := by decide +kernel
theorem dX7_most_126 : decode cX7_most 126 = .ok (.iload 10, 2) := by decide +kernel
theorem dX7_most_128 : decode cX7_most 128 = .ok (.istore 9, 2) := by decide +kernel
theorem dX7_most_130 : decode cX7_most 130 = .ok (.iinc 10 1, 3) := by decide +kernel
theorem dX7_most_133 : decode cX7_most 133 = .ok (.goto (-38), 3) := by decide +kernel
theorem dX7_most_136 : decode cX7_most 136 = .ok (.iload 5, 2) := by decide +kernel
theorem dX7_most_138 : decode cX7_most 138 = .ok (.ifCond .ne 8, 3) := by decide +kernel
theorem dX7_most_141 : decode cX7_most 141 = .ok (.iload 8, 2) := by decide +kernel
theorem dX7_most_143 : decode cX7_most 143 = .ok (.goto 12, 3) := by decide +kernel
theorem dX7_most_146 : decode cX7_most 146 = .ok (.iload 9, 2) := by decide +kernel
theorem dX7_most_148 : decode cX7_most 148 = .ok (.iload_n 2, 1) := by decide +kernel
theorem dX7_most_149 : decode cX7_most 149 = .ok (.iload 5, 2) := by decide +kernel
theorem dX7_most_151 : decode cX7_most 151 = .ok (.isub, 1) := by decide +kernel
theorem dX7_most_152 : decode cX7_most 152 = .ok (.invokestatic 248, 3) := by decide +kernel
theorem dX7_most_155 : decode cX7_most 155 = .ok (.ireturn, 1) := by decide +kernel
theorem dX7_breach_0 : decode cX7_breach 0 = .ok (.iload_n 1, 1) := by decide +kernel
theorem dX7_breach_1 : decode cX7_breach 1 = .ok (.tableswitch 42 0 2 #[27, 32, 37], 27) := by decide +kernel
theorem dX7_breach_28 : decode cX7_breach 28 = .ok (.aload_n 0, 1) := by decide +kernel
theorem dX7_breach_29 : decode cX7_breach 29 = .ok (.getfield 58, 3) := by decide +kernel
theorem dX7_breach_32 : decode cX7_breach 32 = .ok (.ireturn, 1) := by decide +kernel
theorem dX7_breach_33 : decode cX7_breach 33 = .ok (.aload_n 0, 1) := by decide +kernel
theorem dX7_breach_34 : decode cX7_breach 34 = .ok (.getfield 61, 3) := by decide +kernel
theorem dX7_breach_37 : decode cX7_breach 37 = .ok (.ireturn, 1) := by decide +kernel
theorem dX7_breach_38 : decode cX7_breach 38 = .ok (.aload_n 0, 1) := by decide +kernel
theorem dX7_breach_39 : decode cX7_breach 39 = .ok (.getfield 55, 3) := by decide +kernel
theorem dX7_breach_42 : decode cX7_breach 42 = .ok (.ireturn, 1) := by decide +kernel
theorem dX7_breach_43 : decode cX7_breach 43 = .ok (.iconst (-1), 1) := by decide +kernel
theorem dX7_breach_44 : decode cX7_breach 44 = .ok (.ireturn, 1) := by decide +kernel
theorem dX7_count_0 : decode cX7_count 0 = .ok (.iload_n 1, 1) := by decide +kernel
theorem dX7_count_1 : decode cX7_count 1 = .ok (.tableswitch 121 0 9 #[55, 60, 66, 71, 76, 84, 92, 100, 108, 116], 55) := by decide +kernel
theorem dX7_count_56 : decode cX7_count 56 = .ok (.aload_n 0, 1) := by decide +kernel
theorem dX7_count_57 : decode cX7_count 57 = .ok (.getfield 43, 3) := by decide +kernel
theorem dX7_count_60 : decode cX7_count 60 = .ok (.ireturn, 1) := by decide +kernel
theorem dX7_count_61 : decode cX7_count 61 = .ok (.aload_n 0, 1) := by decide +kernel
theorem dX7_count_62 : decode cX7_count 62 = .ok (.getfield 75, 3) := by decide +kernel
theorem dX7_count_65 : decode cX7_count 65 = .ok (.arraylength, 1) := by decide +kernel
theorem dX7_count_66 : decode cX7_count 66 = .ok (.ireturn, 1) := by decide +kernel
theorem dX7_count_67 : decode cX7_count 67 = .ok (.aload_n 0, 1) := by decide +kernel
theorem dX7_count_68 : decode cX7_count 68 = .ok (.getfield 39, 3) := by decide +kernel
theorem dX7_count_71 : decode cX7_count 71 = .ok (.ireturn, 1) := by decide +kernel
theorem dX7_count_72 : decode cX7_count 72 = .ok (.aload_n 0, 1) := by decide +kernel
theorem dX7_count_73 : decode cX7_count 73 = .ok (.invokevirtual 251, 3) := by decide +kernel
theorem dX7_count_76 : decode cX7_count 76 = .ok (.ireturn, 1) := by decide +kernel
theorem dX7_count_77 : decode cX7_count 77 = .ok (.aload_n 0, 1) := by decide +kernel
theorem dX7_count_78 : decode cX7_count 78 = .ok (.getfield 35, 3) := by decide +kernel
theorem dX7_count_81 : decode cX7_count 81 = .ok (.getfield 255, 3) := by decide +kernel
theorem dX7_count_84 : decode cX7_count 84 = .ok (.ireturn, 1) := by decide +kernel
theorem dX7_count_85 : decode cX7_count 85 = .ok (.aload_n 0, 1) := by decide +kernel
theorem dX7_count_86 : decode cX7_count 86 = .ok (.getfield 35, 3) := by decide +kernel
theorem dX7_count_89 : decode cX7_count 89 = .ok (.getfield 258, 3) := by decide +kernel
theorem dX7_count_92 : decode cX7_count 92 = .ok (.ireturn, 1) := by decide +kernel
theorem dX7_count_93 : decode cX7_count 93 = .ok (.aload_n 0, 1) := by decide +kernel
theorem dX7_count_94 : decode cX7_count 94 = .ok (.getfield 35, 3) := by decide +kernel
theorem dX7_count_97 : decode cX7_count 97 = .ok (.getfield 261, 3) := by decide +kernel
theorem dX7_count_100 : decode cX7_count 100 = .ok (.ireturn, 1) := by decide +kernel
theorem dX7_count_101 : decode cX7_count 101 = .ok (.aload_n 0, 1) := by decide +kernel
theorem dX7_count_102 : decode cX7_count 102 = .ok (.getfield 35, 3) := by decide +kernel
theorem dX7_count_105 : decode cX7_count 105 = .ok (.getfield 264, 3) := by decide +kernel
theorem dX7_count_108 : decode cX7_count 108 = .ok (.ireturn, 1) := by decide +kernel
theorem dX7_count_109 : decode cX7_count 109 = .ok (.aload_n 0, 1) := by decide +kernel
theorem dX7_count_110 : decode cX7_count 110 = .ok (.getfield 18, 3) := by decide +kernel
theorem dX7_count_113 : decode cX7_count 113 = .ok (.getfield 138, 3) := by decide +kernel
theorem dX7_count_116 : decode cX7_count 116 = .ok (.ireturn, 1) := by decide +kernel
theorem dX7_count_117 : decode cX7_count 117 = .ok (.aload_n 0, 1) := by decide +kernel
theorem dX7_count_118 : decode cX7_count 118 = .ok (.getfield 49, 3) := by decide +kernel
theorem dX7_count_121 : decode cX7_count 121 = .ok (.ireturn, 1) := by decide +kernel
theorem dX7_count_122 : decode cX7_count 122 = .ok (.iconst (-1), 1) := by decide +kernel
theorem dX7_count_123 : decode cX7_count 123 = .ok (.ireturn, 1) := by decide +kernel
theorem dX7_isWithin_0 : decode cX7_isWithin 0 = .ok (.iload_n 0, 1) := by decide +kernel
theorem dX7_isWithin_1 : decode cX7_isWithin 1 = .ok (.iload_n 1, 1) := by decide +kernel
theorem dX7_isWithin_2 : decode cX7_isWithin 2 = .ok (.if_icmp .lt 12, 3) := by decide +kernel
theorem dX7_isWithin_5 : decode cX7_isWithin 5 = .ok (.iload_n 0, 1) := by decide +kernel
theorem dX7_isWithin_6 : decode cX7_isWithin 6 = .ok (.iload_n 2, 1) := by decide +kernel
theorem dX7_isWithin_7 : decode cX7_isWithin 7 = .ok (.if_icmp .gt 7, 3) := by decide +kernel
theorem dX7_isWithin_10 : decode cX7_isWithin 10 = .ok (.iconst 1, 1) := by decide +kernel
theorem dX7_isWithin_11 : decode cX7_isWithin 11 = .ok (.goto 4, 3) := by decide +kernel
theorem dX7_isWithin_14 : decode cX7_isWithin 14 = .ok (.iconst 0, 1) := by decide +kernel
theorem dX7_isWithin_15 : decode cX7_isWithin 15 = .ok (.ireturn, 1) := by decide +kernel
theorem dX7_asNumber_0 : decode cX7_asNumber 0 = .ok (.iload_n 0, 1) := by decide +kernel
theorem dX7_asNumber_1 : decode cX7_asNumber 1 = .ok (.ifCond .eq 7, 3) := by decide +kernel
theorem dX7_asNumber_4 : decode cX7_asNumber 4 = .ok (.iconst 1, 1) := by decide +kernel
theorem dX7_asNumber_5 : decode cX7_asNumber 5 = .ok (.goto 4, 3) := by decide +kernel
theorem dX7_asNumber_8 : decode cX7_asNumber 8 = .ok (.iconst 0, 1) := by decide +kernel
theorem dX7_asNumber_9 : decode cX7_asNumber 9 = .ok (.ireturn, 1) := by decide +kernel
theorem dX7_mayTry_0 : decode cX7_mayTry 0 = .ok (.iload_n 0, 1) := by decide +kernel
theorem dX7_mayTry_1 : decode cX7_mayTry 1 = .ok (.iconst 1, 1) := by decide +kernel
theorem dX7_mayTry_2 : decode cX7_mayTry 2 = .ok (.bipush 10, 2) := by decide +kernel
theorem dX7_mayTry_4 : decode cX7_mayTry 4 = .ok (.invokestatic 95, 3) := by decide +kernel
theorem dX7_mayTry_7 : decode cX7_mayTry 7 = .ok (.ifCond .eq 17, 3) := by decide +kernel
theorem dX7_mayTry_10 : decode cX7_mayTry 10 = .ok (.iload_n 1, 1) := by decide +kernel
theorem dX7_mayTry_11 : decode cX7_mayTry 11 = .ok (.iconst 0, 1) := by decide +kernel
theorem dX7_mayTry_12 : decode cX7_mayTry 12 = .ok (.bipush 50, 2) := by decide +kernel
theorem dX7_mayTry_14 : decode cX7_mayTry 14 = .ok (.invokestatic 95, 3) := by decide +kernel
theorem dX7_mayTry_17 : decode cX7_mayTry 17 = .ok (.ifCond .eq 7, 3) := by decide +kernel
theorem dX7_mayTry_20 : decode cX7_mayTry 20 = .ok (.iconst 1, 1) := by decide +kernel
theorem dX7_mayTry_21 : decode cX7_mayTry 21 = .ok (.goto 4, 3) := by decide +kernel
theorem dX7_mayTry_24 : decode cX7_mayTry 24 = .ok (.iconst 0, 1) := by decide +kernel
theorem dX7_mayTry_25 : decode cX7_mayTry 25 = .ok (.ireturn, 1) := by decide +kernel
theorem dX7_tankAt_0 : decode cX7_tankAt 0 = .ok (.iload_n 1, 1) := by decide +kernel
theorem dX7_tankAt_1 : decode cX7_tankAt 1 = .ok (.ifCond .lt 21, 3) := by decide +kernel
theorem dX7_tankAt_4 : decode cX7_tankAt 4 = .ok (.iload_n 1, 1) := by decide +kernel
theorem dX7_tankAt_5 : decode cX7_tankAt 5 = .ok (.aload_n 0, 1) := by decide +kernel
theorem dX7_tankAt_6 : decode cX7_tankAt 6 = .ok (.getfield 75, 3) := by decide +kernel
theorem dX7_tankAt_9 : decode cX7_tankAt 9 = .ok (.arraylength, 1) := by decide +kernel
theorem dX7_tankAt_10 : decode cX7_tankAt 10 = .ok (.if_icmp .ge 12, 3) := by decide +kernel
theorem dX7_tankAt_13 : decode cX7_tankAt 13 = .ok (.aload_n 0, 1) := by decide +kernel
theorem dX7_tankAt_14 : decode cX7_tankAt 14 = .ok (.getfield 75, 3) := by decide +kernel
theorem dX7_tankAt_17 : decode cX7_tankAt 17 = .ok (.iload_n 1, 1) := by decide +kernel
theorem dX7_tankAt_18 : decode cX7_tankAt 18 = .ok (.aaload, 1) := by decide +kernel
theorem dX7_tankAt_19 : decode cX7_tankAt 19 = .ok (.goto 4, 3) := by decide +kernel
theorem dX7_tankAt_22 : decode cX7_tankAt 22 = .ok (.aconst_null, 1) := by decide +kernel
theorem dX7_tankAt_23 : decode cX7_tankAt 23 = .ok (.areturn, 1) := by decide +kernel
theorem dX7_fieldAt_0 : decode cX7_fieldAt 0 = .ok (.iload_n 1, 1) := by decide +kernel
theorem dX7_fieldAt_1 : decode cX7_fieldAt 1 = .ok (.ifCond .lt 21, 3) := by decide +kernel
theorem dX7_fieldAt_4 : decode cX7_fieldAt 4 = .ok (.iload_n 1, 1) := by decide +kernel
theorem dX7_fieldAt_5 : decode cX7_fieldAt 5 = .ok (.aload_n 0, 1) := by decide +kernel
theorem dX7_fieldAt_6 : decode cX7_fieldAt 6 = .ok (.getfield 11, 3) := by decide +kernel
theorem dX7_fieldAt_9 : decode cX7_fieldAt 9 = .ok (.arraylength, 1) := by decide +kernel
theorem dX7_fieldAt_10 : decode cX7_fieldAt 10 = .ok (.if_icmp .ge 12, 3) := by decide +kernel
theorem dX7_fieldAt_13 : decode cX7_fieldAt 13 = .ok (.aload_n 0, 1) := by decide +kernel
theorem dX7_fieldAt_14 : decode cX7_fieldAt 14 = .ok (.getfield 11, 3) := by decide +kernel
theorem dX7_fieldAt_17 : decode cX7_fieldAt 17 = .ok (.iload_n 1, 1) := by decide +kernel
theorem dX7_fieldAt_18 : decode cX7_fieldAt 18 = .ok (.aaload, 1) := by decide +kernel
theorem dX7_fieldAt_19 : decode cX7_fieldAt 19 = .ok (.goto 4, 3) := by decide +kernel
theorem dX7_fieldAt_22 : decode cX7_fieldAt 22 = .ok (.aconst_null, 1) := by decide +kernel
theorem dX7_fieldAt_23 : decode cX7_fieldAt 23 = .ok (.areturn, 1) := by decide +kernel
theorem dX7_allWater_0 : decode cX7_allWater 0 = .ok (.iconst 0, 1) := by decide +kernel
theorem dX7_allWater_1 : decode cX7_allWater 1 = .ok (.istore_n 1, 1) := by decide +kernel
theorem dX7_allWater_2 : decode cX7_allWater 2 = .ok (.aload_n 0, 1) := by decide +kernel
theorem dX7_allWater_3 : decode cX7_allWater 3 = .ok (.getfield 87, 3) := by decide +kernel
theorem dX7_allWater_6 : decode cX7_allWater 6 = .ok (.getfield 267, 3) := by decide +kernel
theorem dX7_allWater_9 : decode cX7_allWater 9 = .ok (.astore_n 2, 1) := by decide +kernel
theorem dX7_allWater_10 : decode cX7_allWater 10 = .ok (.aload_n 2, 1) := by decide +kernel
theorem dX7_allWater_11 : decode cX7_allWater 11 = .ok (.ifnull 21, 3) := by decide +kernel
theorem dX7_allWater_14 : decode cX7_allWater 14 = .ok (.iload_n 1, 1) := by decide +kernel
theorem dX7_allWater_15 : decode cX7_allWater 15 = .ok (.aload_n 2, 1) := by decide +kernel
theorem dX7_allWater_16 : decode cX7_allWater 16 = .ok (.getfield 108, 3) := by decide +kernel
theorem dX7_allWater_19 : decode cX7_allWater 19 = .ok (.getfield 122, 3) := by decide +kernel
theorem dX7_allWater_22 : decode cX7_allWater 22 = .ok (.iadd, 1) := by decide +kernel
theorem dX7_allWater_23 : decode cX7_allWater 23 = .ok (.istore_n 1, 1) := by decide +kernel
theorem dX7_allWater_24 : decode cX7_allWater 24 = .ok (.aload_n 2, 1) := by decide +kernel
theorem dX7_allWater_25 : decode cX7_allWater 25 = .ok (.getfield 271, 3) := by decide +kernel
theorem dX7_allWater_28 : decode cX7_allWater 28 = .ok (.astore_n 2, 1) := by decide +kernel
theorem dX7_allWater_29 : decode cX7_allWater 29 = .ok (.goto (-19), 3) := by decide +kernel
theorem dX7_allWater_32 : decode cX7_allWater 32 = .ok (.iload_n 1, 1) := by decide +kernel
theorem dX7_allWater_33 : decode cX7_allWater 33 = .ok (.ireturn, 1) := by decide +kernel
theorem dX7_orderAnew_0 : decode cX7_orderAnew 0 = .ok (.aload_n 0, 1) := by decide +kernel
theorem dX7_orderAnew_1 : decode cX7_orderAnew 1 = .ok (.getfield 87, 3) := by decide +kernel
theorem dX7_orderAnew_4 : decode cX7_orderAnew 4 = .ok (.getfield 267, 3) := by decide +kernel
theorem dX7_orderAnew_7 : decode cX7_orderAnew 7 = .ok (.astore_n 1, 1) := by decide +kernel
theorem dX7_orderAnew_8 : decode cX7_orderAnew 8 = .ok (.aload_n 1, 1) := by decide +kernel
theorem dX7_orderAnew_9 : decode cX7_orderAnew 9 = .ok (.ifnull 16, 3) := by decide +kernel
theorem dX7_orderAnew_12 : decode cX7_orderAnew 12 = .ok (.aload_n 1, 1) := by decide +kernel
theorem dX7_orderAnew_13 : decode cX7_orderAnew 13 = .ok (.aconst_null, 1) := by decide +kernel
theorem dX7_orderAnew_14 : decode cX7_orderAnew 14 = .ok (.putfield 225, 3) := by decide +kernel
theorem dX7_orderAnew_17 : decode cX7_orderAnew 17 = .ok (.aload_n 1, 1) := by decide +kernel
theorem dX7_orderAnew_18 : decode cX7_orderAnew 18 = .ok (.getfield 271, 3) := by decide +kernel
theorem dX7_orderAnew_21 : decode cX7_orderAnew 21 = .ok (.astore_n 1, 1) := by decide +kernel
theorem dX7_orderAnew_22 : decode cX7_orderAnew 22 = .ok (.goto (-14), 3) := by decide +kernel
theorem dX7_orderAnew_25 : decode cX7_orderAnew 25 = .ok (.iconst 0, 1) := by decide +kernel
theorem dX7_orderAnew_26 : decode cX7_orderAnew 26 = .ok (.istore_n 1, 1) := by decide +kernel
theorem dX7_orderAnew_27 : decode cX7_orderAnew 27 = .ok (.iload_n 1, 1) := by decide +kernel
theorem dX7_orderAnew_28 : decode cX7_orderAnew 28 = .ok (.aload_n 0, 1) := by decide +kernel
theorem dX7_orderAnew_29 : decode cX7_orderAnew 29 = .ok (.getfield 39, 3) := by decide +kernel
theorem dX7_orderAnew_32 : decode cX7_orderAnew 32 = .ok (.if_icmp .ge 45, 3) := by decide +kernel
theorem dX7_orderAnew_35 : decode cX7_orderAnew 35 = .ok (.aload_n 0, 1) := by decide +kernel
theorem dX7_orderAnew_36 : decode cX7_orderAnew 36 = .ok (.iload_n 1, 1) := by decide +kernel
theorem dX7_orderAnew_37 : decode cX7_orderAnew 37 = .ok (.invokevirtual 197, 3) := by decide +kernel
theorem dX7_orderAnew_40 : decode cX7_orderAnew 40 = .ok (.astore_n 2, 1) := by decide +kernel
theorem dX7_orderAnew_41 : decode cX7_orderAnew 41 = .ok (.aload_n 2, 1) := by decide +kernel
theorem dX7_orderAnew_42 : decode cX7_orderAnew 42 = .ok (.ifnonnull 7, 3) := by decide +kernel
theorem dX7_orderAnew_45 : decode cX7_orderAnew 45 = .ok (.aconst_null, 1) := by decide +kernel
theorem dX7_orderAnew_46 : decode cX7_orderAnew 46 = .ok (.goto 11, 3) := by decide +kernel
theorem dX7_orderAnew_49 : decode cX7_orderAnew 49 = .ok (.aload_n 0, 1) := by decide +kernel
theorem dX7_orderAnew_50 : decode cX7_orderAnew 50 = .ok (.aload_n 2, 1) := by decide +kernel
theorem dX7_orderAnew_51 : decode cX7_orderAnew 51 = .ok (.getfield 201, 3) := by decide +kernel
theorem dX7_orderAnew_54 : decode cX7_orderAnew 54 = .ok (.invokevirtual 91, 3) := by decide +kernel
theorem dX7_orderAnew_57 : decode cX7_orderAnew 57 = .ok (.astore_n 3, 1) := by decide +kernel
theorem dX7_orderAnew_58 : decode cX7_orderAnew 58 = .ok (.aload_n 3, 1) := by decide +kernel
theorem dX7_orderAnew_59 : decode cX7_orderAnew 59 = .ok (.ifnull 12, 3) := by decide +kernel
theorem dX7_orderAnew_62 : decode cX7_orderAnew 62 = .ok (.aload_n 3, 1) := by decide +kernel
theorem dX7_orderAnew_63 : decode cX7_orderAnew 63 = .ok (.aload_n 2, 1) := by decide +kernel
theorem dX7_orderAnew_64 : decode cX7_orderAnew 64 = .ok (.aload_n 0, 1) := by decide +kernel
theorem dX7_orderAnew_65 : decode cX7_orderAnew 65 = .ok (.getfield 25, 3) := by decide +kernel
theorem dX7_orderAnew_68 : decode cX7_orderAnew 68 = .ok (.invokevirtual 128, 3) := by decide +kernel
theorem dX7_orderAnew_71 : decode cX7_orderAnew 71 = .ok (.iinc 1 1, 3) := by decide +kernel
theorem dX7_orderAnew_74 : decode cX7_orderAnew 74 = .ok (.goto (-47), 3) := by decide +kernel
theorem dX7_orderAnew_77 : decode cX7_orderAnew 77 = .ok (.return_, 1) := by decide +kernel
theorem dX7_addSilt_0 : decode cX7_addSilt 0 = .ok (.aload_n 0, 1) := by decide +kernel
theorem dX7_addSilt_1 : decode cX7_addSilt 1 = .ok (.getfield 87, 3) := by decide +kernel
theorem dX7_addSilt_4 : decode cX7_addSilt 4 = .ok (.getfield 267, 3) := by decide +kernel
theorem dX7_addSilt_7 : decode cX7_addSilt 7 = .ok (.astore_n 1, 1) := by decide +kernel
theorem dX7_addSilt_8 : decode cX7_addSilt 8 = .ok (.aload_n 1, 1) := by decide +kernel
theorem dX7_addSilt_9 : decode cX7_addSilt 9 = .ok (.ifnull 34, 3) := by decide +kernel
theorem dX7_addSilt_12 : decode cX7_addSilt 12 = .ok (.aload_n 1, 1) := by decide +kernel
theorem dX7_addSilt_13 : decode cX7_addSilt 13 = .ok (.aload_n 1, 1) := by decide +kernel
theorem dX7_addSilt_14 : decode cX7_addSilt 14 = .ok (.getfield 102, 3) := by decide +kernel
theorem dX7_addSilt_17 : decode cX7_addSilt 17 = .ok (.aload_n 1, 1) := by decide +kernel
theorem dX7_addSilt_18 : decode cX7_addSilt 18 = .ok (.getfield 135, 3) := by decide +kernel
theorem dX7_addSilt_21 : decode cX7_addSilt 21 = .ok (.aload_n 1, 1) := by decide +kernel
theorem dX7_addSilt_22 : decode cX7_addSilt 22 = .ok (.getfield 102, 3) := by decide +kernel
theorem dX7_addSilt_25 : decode cX7_addSilt 25 = .ok (.bipush 50, 2) := by decide +kernel
theorem dX7_addSilt_27 : decode cX7_addSilt 27 = .ok (.idiv, 1) := by decide +kernel
theorem dX7_addSilt_28 : decode cX7_addSilt 28 = .ok (.iadd, 1) := by decide +kernel
theorem dX7_addSilt_29 : decode cX7_addSilt 29 = .ok (.invokestatic 64, 3) := by decide +kernel
theorem dX7_addSilt_32 : decode cX7_addSilt 32 = .ok (.putfield 135, 3) := by decide +kernel
theorem dX7_addSilt_35 : decode cX7_addSilt 35 = .ok (.aload_n 1, 1) := by decide +kernel
theorem dX7_addSilt_36 : decode cX7_addSilt 36 = .ok (.getfield 271, 3) := by decide +kernel
theorem dX7_addSilt_39 : decode cX7_addSilt 39 = .ok (.astore_n 1, 1) := by decide +kernel
theorem dX7_addSilt_40 : decode cX7_addSilt 40 = .ok (.goto (-32), 3) := by decide +kernel
theorem dX7_addSilt_43 : decode cX7_addSilt 43 = .ok (.return_, 1) := by decide +kernel
theorem dX7_keepTanks_0 : decode cX7_keepTanks 0 = .ok (.iconst 0, 1) := by decide +kernel
theorem dX7_keepTanks_1 : decode cX7_keepTanks 1 = .ok (.istore_n 1, 1) := by decide +kernel
theorem dX7_keepTanks_2 : decode cX7_keepTanks 2 = .ok (.iconst (-1), 1) := by decide +kernel
theorem dX7_keepTanks_3 : decode cX7_keepTanks 3 = .ok (.istore_n 2, 1) := by decide +kernel
theorem dX7_keepTanks_4 : decode cX7_keepTanks 4 = .ok (.aload_n 0, 1) := by decide +kernel
theorem dX7_keepTanks_5 : decode cX7_keepTanks 5 = .ok (.getfield 87, 3) := by decide +kernel
theorem dX7_keepTanks_8 : decode cX7_keepTanks 8 = .ok (.getfield 267, 3) := by decide +kernel
theorem dX7_keepTanks_11 : decode cX7_keepTanks 11 = .ok (.astore_n 3, 1) := by decide +kernel
theorem dX7_keepTanks_12 : decode cX7_keepTanks 12 = .ok (.aload_n 3, 1) := by decide +kernel
theorem dX7_keepTanks_13 : decode cX7_keepTanks 13 = .ok (.ifnull 66, 3) := by decide +kernel
theorem dX7_keepTanks_16 : decode cX7_keepTanks 16 = .ok (.aload_n 3, 1) := by decide +kernel
theorem dX7_keepTanks_17 : decode cX7_keepTanks 17 = .ok (.getfield 274, 3) := by decide +kernel
theorem dX7_keepTanks_20 : decode cX7_keepTanks 20 = .ok (.getfield 112, 3) := by decide +kernel
theorem dX7_keepTanks_23 : decode cX7_keepTanks 23 = .ok (.ifCond .eq 37, 3) := by decide +kernel
theorem dX7_keepTanks_26 : decode cX7_keepTanks 26 = .ok (.aload_n 3, 1) := by decide +kernel
theorem dX7_keepTanks_27 : decode cX7_keepTanks 27 = .ok (.getfield 108, 3) := by decide +kernel
theorem dX7_keepTanks_30 : decode cX7_keepTanks 30 = .ok (.getfield 112, 3) := by decide +kernel
theorem dX7_keepTanks_33 : decode cX7_keepTanks 33 = .ok (.ifCond .ne 27, 3) := by decide +kernel
theorem dX7_keepTanks_36 : decode cX7_keepTanks 36 = .ok (.aload_n 3, 1) := by decide +kernel
theorem dX7_keepTanks_37 : decode cX7_keepTanks 37 = .ok (.aload_n 0, 1) := by decide +kernel
theorem dX7_keepTanks_38 : decode cX7_keepTanks 38 = .ok (.getfield 43, 3) := by decide +kernel
theorem dX7_keepTanks_41 : decode cX7_keepTanks 41 = .ok (.putfield 190, 3) := by decide +kernel
theorem dX7_keepTanks_44 : decode cX7_keepTanks 44 = .ok (.iload_n 1, 1) := by decide +kernel
theorem dX7_keepTanks_45 : decode cX7_keepTanks 45 = .ok (.ifCond .ne 10, 3) := by decide +kernel
theorem dX7_keepTanks_48 : decode cX7_keepTanks 48 = .ok (.aload_n 3, 1) := by decide +kernel
theorem dX7_keepTanks_49 : decode cX7_keepTanks 49 = .ok (.getfield 277, 3) := by decide +kernel
theorem dX7_keepTanks_52 : decode cX7_keepTanks 52 = .ok (.goto 4, 3) := by decide +kernel
theorem dX7_keepTanks_55 : decode cX7_keepTanks 55 = .ok (.iload_n 2, 1) := by decide +kernel
theorem dX7_keepTanks_56 : decode cX7_keepTanks 56 = .ok (.istore_n 2, 1) := by decide +kernel
theorem dX7_keepTanks_57 : decode cX7_keepTanks 57 = .ok (.iinc 1 1, 3) := by decide +kernel
theorem dX7_keepTanks_60 : decode cX7_keepTanks 60 = .ok (.aload_n 3, 1) := by decide +kernel
theorem dX7_keepTanks_61 : decode cX7_keepTanks 61 = .ok (.getfield 108, 3) := by decide +kernel
theorem dX7_keepTanks_64 : decode cX7_keepTanks 64 = .ok (.aload_n 3, 1) := by decide +kernel
theorem dX7_keepTanks_65 : decode cX7_keepTanks 65 = .ok (.getfield 274, 3) := by decide +kernel
theorem dX7_keepTanks_68 : decode cX7_keepTanks 68 = .ok (.invokevirtual 278, 3) := by decide +kernel
theorem dX7_keepTanks_71 : decode cX7_keepTanks 71 = .ok (.aload_n 3, 1) := by decide +kernel
theorem dX7_keepTanks_72 : decode cX7_keepTanks 72 = .ok (.getfield 271, 3) := by decide +kernel
theorem dX7_keepTanks_75 : decode cX7_keepTanks 75 = .ok (.astore_n 3, 1) := by decide +kernel
theorem dX7_keepTanks_76 : decode cX7_keepTanks 76 = .ok (.goto (-64), 3) := by decide +kernel
theorem dX7_keepTanks_79 : decode cX7_keepTanks 79 = .ok (.iload_n 1, 1) := by decide +kernel
theorem dX7_keepTanks_80 : decode cX7_keepTanks 80 = .ok (.ifCond .le 21, 3) := by decide +kernel
theorem dX7_keepTanks_83 : decode cX7_keepTanks 83 = .ok (.aload_n 0, 1) := by decide +kernel
theorem dX7_keepTanks_84 : decode cX7_keepTanks 84 = .ok (.aload_n 0, 1) := by decide +kernel
theorem dX7_keepTanks_85 : decode cX7_keepTanks 85 = .ok (.getfield 43, 3) := by decide +kernel
theorem dX7_keepTanks_88 : decode cX7_keepTanks 88 = .ok (.putfield 55, 3) := by decide +kernel
theorem dX7_keepTanks_91 : decode cX7_keepTanks 91 = .ok (.aload_n 0, 1) := by decide +kernel
theorem dX7_keepTanks_92 : decode cX7_keepTanks 92 = .ok (.iload_n 2, 1) := by decide +kernel
theorem dX7_keepTanks_93 : decode cX7_keepTanks 93 = .ok (.putfield 58, 3) := by decide +kernel
theorem dX7_keepTanks_96 : decode cX7_keepTanks 96 = .ok (.aload_n 0, 1) := by decide +kernel
theorem dX7_keepTanks_97 : decode cX7_keepTanks 97 = .ok (.iload_n 1, 1) := by decide +kernel
theorem dX7_keepTanks_98 : decode cX7_keepTanks 98 = .ok (.putfield 61, 3) := by decide +kernel
theorem dX7_keepTanks_101 : decode cX7_keepTanks 101 = .ok (.return_, 1) := by decide +kernel
theorem dX7_keepFields_0 : decode cX7_keepFields 0 = .ok (.iconst 0, 1) := by decide +kernel
theorem dX7_keepFields_1 : decode cX7_keepFields 1 = .ok (.istore_n 1, 1) := by decide +kernel
theorem dX7_keepFields_2 : decode cX7_keepFields 2 = .ok (.iload_n 1, 1) := by decide +kernel
theorem dX7_keepFields_3 : decode cX7_keepFields 3 = .ok (.aload_n 0, 1) := by decide +kernel
theorem dX7_keepFields_4 : decode cX7_keepFields 4 = .ok (.getfield 39, 3) := by decide +kernel
theorem dX7_keepFields_7 : decode cX7_keepFields 7 = .ok (.if_icmp .ge 23, 3) := by decide +kernel
theorem dX7_keepFields_10 : decode cX7_keepFields 10 = .ok (.aload_n 0, 1) := by decide +kernel
theorem dX7_keepFields_11 : decode cX7_keepFields 11 = .ok (.iload_n 1, 1) := by decide +kernel
theorem dX7_keepFields_12 : decode cX7_keepFields 12 = .ok (.invokevirtual 197, 3) := by decide +kernel
theorem dX7_keepFields_15 : decode cX7_keepFields 15 = .ok (.astore_n 2, 1) := by decide +kernel
theorem dX7_keepFields_16 : decode cX7_keepFields 16 = .ok (.aload_n 2, 1) := by decide +kernel
theorem dX7_keepFields_17 : decode cX7_keepFields 17 = .ok (.ifnull 7, 3) := by decide +kernel
theorem dX7_keepFields_20 : decode cX7_keepFields 20 = .ok (.aload_n 2, 1) := by decide +kernel
theorem dX7_keepFields_21 : decode cX7_keepFields 21 = .ok (.invokevirtual 281, 3) := by decide +kernel
theorem dX7_keepFields_24 : decode cX7_keepFields 24 = .ok (.iinc 1 1, 3) := by decide +kernel
theorem dX7_keepFields_27 : decode cX7_keepFields 27 = .ok (.goto (-25), 3) := by decide +kernel
theorem dX7_keepFields_30 : decode cX7_keepFields 30 = .ok (.return_, 1) := by decide +kernel
theorem dX7_waterTried_0 : decode cX7_waterTried 0 = .ok (.aload_n 0, 1) := by decide +kernel
theorem dX7_waterTried_1 : decode cX7_waterTried 1 = .ok (.getfield 87, 3) := by decide +kernel
theorem dX7_waterTried_4 : decode cX7_waterTried 4 = .ok (.invokevirtual 162, 3) := by decide +kernel
theorem dX7_waterTried_7 : decode cX7_waterTried 7 = .ok (.aload_n 2, 1) := by decide +kernel
theorem dX7_waterTried_8 : decode cX7_waterTried 8 = .ok (.ifnull 11, 3) := by decide +kernel
theorem dX7_waterTried_11 : decode cX7_waterTried 11 = .ok (.aload_n 2, 1) := by decide +kernel
theorem dX7_waterTried_12 : decode cX7_waterTried 12 = .ok (.getfield 274, 3) := by decide +kernel
theorem dX7_waterTried_15 : decode cX7_waterTried 15 = .ok (.iconst 0, 1) := by decide +kernel
theorem dX7_waterTried_16 : decode cX7_waterTried 16 = .ok (.putfield 132, 3) := by decide +kernel
theorem dX7_waterTried_19 : decode cX7_waterTried 19 = .ok (.iconst 0, 1) := by decide +kernel
theorem dX7_waterTried_20 : decode cX7_waterTried 20 = .ok (.istore 5, 2) := by decide +kernel
theorem dX7_waterTried_22 : decode cX7_waterTried 22 = .ok (.iload 5, 2) := by decide +kernel
theorem dX7_waterTried_24 : decode cX7_waterTried 24 = .ok (.iload_n 3, 1) := by decide +kernel
theorem dX7_waterTried_25 : decode cX7_waterTried 25 = .ok (.if_icmp .ge 18, 3) := by decide +kernel
theorem dX7_waterTried_28 : decode cX7_waterTried 28 = .ok (.aload_n 0, 1) := by decide +kernel
theorem dX7_waterTried_29 : decode cX7_waterTried 29 = .ok (.getfield 87, 3) := by decide +kernel
theorem dX7_waterTried_32 : decode cX7_waterTried 32 = .ok (.iload 4, 2) := by decide +kernel
theorem dX7_waterTried_34 : decode cX7_waterTried 34 = .ok (.invokevirtual 165, 3) := by decide +kernel
theorem dX7_waterTried_37 : decode cX7_waterTried 37 = .ok (.iinc 5 1, 3) := by decide +kernel
theorem dX7_waterTried_40 : decode cX7_waterTried 40 = .ok (.goto (-18), 3) := by decide +kernel
theorem dX7_waterTried_43 : decode cX7_waterTried 43 = .ok (.aload_n 1, 1) := by decide +kernel
theorem dX7_waterTried_44 : decode cX7_waterTried 44 = .ok (.getfield 274, 3) := by decide +kernel
theorem dX7_waterTried_47 : decode cX7_waterTried 47 = .ok (.getfield 122, 3) := by decide +kernel
theorem dX7_waterTried_50 : decode cX7_waterTried 50 = .ok (.ireturn, 1) := by decide +kernel
theorem dX7_areasFedBy_0 : decode cX7_areasFedBy 0 = .ok (.aload_n 0, 1) := by decide +kernel
theorem dX7_areasFedBy_1 : decode cX7_areasFedBy 1 = .ok (.getfield 87, 3) := by decide +kernel
theorem dX7_areasFedBy_4 : decode cX7_areasFedBy 4 = .ok (.invokevirtual 162, 3) := by decide +kernel
theorem dX7_areasFedBy_7 : decode cX7_areasFedBy 7 = .ok (.iconst 0, 1) := by decide +kernel
theorem dX7_areasFedBy_8 : decode cX7_areasFedBy 8 = .ok (.istore 6, 2) := by decide +kernel
theorem dX7_areasFedBy_10 : decode cX7_areasFedBy 10 = .ok (.iload 6, 2) := by decide +kernel
theorem dX7_areasFedBy_12 : decode cX7_areasFedBy 12 = .ok (.iload_n 3, 1) := by decide +kernel
theorem dX7_areasFedBy_13 : decode cX7_areasFedBy 13 = .ok (.if_icmp .ge 42, 3) := by decide +kernel
theorem dX7_areasFedBy_16 : decode cX7_areasFedBy 16 = .ok (.aload_n 0, 1) := by decide +kernel
theorem dX7_areasFedBy_17 : decode cX7_areasFedBy 17 = .ok (.iload_n 2, 1) := by decide +kernel
theorem dX7_areasFedBy_18 : decode cX7_areasFedBy 18 = .ok (.iload 6, 2) := by decide +kernel
theorem dX7_areasFedBy_20 : decode cX7_areasFedBy 20 = .ok (.iadd, 1) := by decide +kernel
theorem dX7_areasFedBy_21 : decode cX7_areasFedBy 21 = .ok (.invokevirtual 91, 3) := by decide +kernel
theorem dX7_areasFedBy_24 : decode cX7_areasFedBy 24 = .ok (.astore 7, 2) := by decide +kernel
theorem dX7_areasFedBy_26 : decode cX7_areasFedBy 26 = .ok (.aload 7, 2) := by decide +kernel
theorem dX7_areasFedBy_28 : decode cX7_areasFedBy 28 = .ok (.ifnull 21, 3) := by decide +kernel
theorem dX7_areasFedBy_31 : decode cX7_areasFedBy 31 = .ok (.aload 7, 2) := by decide +kernel
theorem dX7_areasFedBy_33 : decode cX7_areasFedBy 33 = .ok (.getfield 274, 3) := by decide +kernel
theorem dX7_areasFedBy_36 : decode cX7_areasFedBy 36 = .ok (.iload_n 1, 1) := by decide +kernel
theorem dX7_areasFedBy_37 : decode cX7_areasFedBy 37 = .ok (.iload_n 3, 1) := by decide +kernel
theorem dX7_areasFedBy_38 : decode cX7_areasFedBy 38 = .ok (.iconst 1, 1) := by decide +kernel
theorem dX7_areasFedBy_39 : decode cX7_areasFedBy 39 = .ok (.isub, 1) := by decide +kernel
theorem dX7_areasFedBy_40 : decode cX7_areasFedBy 40 = .ok (.iload 6, 2) := by decide +kernel
theorem dX7_areasFedBy_42 : decode cX7_areasFedBy 42 = .ok (.isub, 1) := by decide +kernel
theorem dX7_areasFedBy_43 : decode cX7_areasFedBy 43 = .ok (.invokestatic 248, 3) := by decide +kernel
theorem dX7_areasFedBy_46 : decode cX7_areasFedBy 46 = .ok (.putfield 132, 3) := by decide +kernel
theorem dX7_areasFedBy_49 : decode cX7_areasFedBy 49 = .ok (.iinc 6 1, 3) := by decide +kernel
theorem dX7_areasFedBy_52 : decode cX7_areasFedBy 52 = .ok (.goto (-42), 3) := by decide +kernel
theorem dX7_areasFedBy_55 : decode cX7_areasFedBy 55 = .ok (.iconst 0, 1) := by decide +kernel
theorem dX7_areasFedBy_56 : decode cX7_areasFedBy 56 = .ok (.istore 6, 2) := by decide +kernel
theorem dX7_areasFedBy_58 : decode cX7_areasFedBy 58 = .ok (.iconst 0, 1) := by decide +kernel
theorem dX7_areasFedBy_59 : decode cX7_areasFedBy 59 = .ok (.istore 7, 2) := by decide +kernel
theorem dX7_areasFedBy_61 : decode cX7_areasFedBy 61 = .ok (.iload 7, 2) := by decide +kernel
theorem dX7_areasFedBy_63 : decode cX7_areasFedBy 63 = .ok (.iload 4, 2) := by decide +kernel
theorem dX7_areasFedBy_65 : decode cX7_areasFedBy 65 = .ok (.if_icmp .ge 30, 3) := by decide +kernel
theorem dX7_areasFedBy_68 : decode cX7_areasFedBy 68 = .ok (.aload_n 0, 1) := by decide +kernel
theorem dX7_areasFedBy_69 : decode cX7_areasFedBy 69 = .ok (.getfield 87, 3) := by decide +kernel
theorem dX7_areasFedBy_72 : decode cX7_areasFedBy 72 = .ok (.iload 5, 2) := by decide +kernel
theorem dX7_areasFedBy_74 : decode cX7_areasFedBy 74 = .ok (.invokevirtual 165, 3) := by decide +kernel
theorem dX7_areasFedBy_77 : decode cX7_areasFedBy 77 = .ok (.iload 6, 2) := by decide +kernel
theorem dX7_areasFedBy_79 : decode cX7_areasFedBy 79 = .ok (.aload_n 0, 1) := by decide +kernel
theorem dX7_areasFedBy_80 : decode cX7_areasFedBy 80 = .ok (.getfield 87, 3) := by decide +kernel
theorem dX7_areasFedBy_83 : decode cX7_areasFedBy 83 = .ok (.getfield 284, 3) := by decide +kernel
theorem dX7_areasFedBy_86 : decode cX7_areasFedBy 86 = .ok (.iadd, 1) := by decide +kernel
theorem dX7_areasFedBy_87 : decode cX7_areasFedBy 87 = .ok (.istore 6, 2) := by decide +kernel
theorem dX7_areasFedBy_89 : decode cX7_areasFedBy 89 = .ok (.iinc 7 1, 3) := by decide +kernel
theorem dX7_areasFedBy_92 : decode cX7_areasFedBy 92 = .ok (.goto (-31), 3) := by decide +kernel
theorem dX7_areasFedBy_95 : decode cX7_areasFedBy 95 = .ok (.iload 6, 2) := by decide +kernel
theorem dX7_areasFedBy_97 : decode cX7_areasFedBy 97 = .ok (.ireturn, 1) := by decide +kernel
theorem dX7_openingIn_0 : decode cX7_openingIn 0 = .ok (.iload_n 0, 1) := by decide +kernel
theorem dX7_openingIn_1 : decode cX7_openingIn 1 = .ok (.istore_n 2, 1) := by decide +kernel
theorem dX7_openingIn_2 : decode cX7_openingIn 2 = .ok (.iconst 0, 1) := by decide +kernel
theorem dX7_openingIn_3 : decode cX7_openingIn 3 = .ok (.istore_n 3, 1) := by decide +kernel
theorem dX7_openingIn_4 : decode cX7_openingIn 4 = .ok (.iload_n 3, 1) := by decide +kernel
theorem dX7_openingIn_5 : decode cX7_openingIn 5 = .ok (.iload_n 1, 1) := by decide +kernel
theorem dX7_openingIn_6 : decode cX7_openingIn 6 = .ok (.if_icmp .ge 13, 3) := by decide +kernel
theorem dX7_openingIn_9 : decode cX7_openingIn 9 = .ok (.iload_n 2, 1) := by decide +kernel
theorem dX7_openingIn_10 : decode cX7_openingIn 10 = .ok (.iconst 5, 1) := by decide +kernel
theorem dX7_openingIn_11 : decode cX7_openingIn 11 = .ok (.idiv, 1) := by decide +kernel
theorem dX7_openingIn_12 : decode cX7_openingIn 12 = .ok (.istore_n 2, 1) := by decide +kernel
theorem dX7_openingIn_13 : decode cX7_openingIn 13 = .ok (.iinc 3 1, 3) := by decide +kernel
theorem dX7_openingIn_16 : decode cX7_openingIn 16 = .ok (.goto (-12), 3) := by decide +kernel
theorem dX7_openingIn_19 : decode cX7_openingIn 19 = .ok (.iload_n 2, 1) := by decide +kernel
theorem dX7_openingIn_20 : decode cX7_openingIn 20 = .ok (.iconst 5, 1) := by decide +kernel
theorem dX7_openingIn_21 : decode cX7_openingIn 21 = .ok (.irem, 1) := by decide +kernel
theorem dX7_openingIn_22 : decode cX7_openingIn 22 = .ok (.iconst 5, 1) := by decide +kernel
theorem dX7_openingIn_23 : decode cX7_openingIn 23 = .ok (.imul, 1) := by decide +kernel
theorem dX7_openingIn_24 : decode cX7_openingIn 24 = .ok (.ireturn, 1) := by decide +kernel
theorem dJ9_max_7cf53_0 : decode cJ9_max_7cf53 0 = .ok (.iload_n 0, 1) := by decide +kernel
theorem dJ9_max_7cf53_1 : decode cJ9_max_7cf53 1 = .ok (.iload_n 1, 1) := by decide +kernel
theorem dJ9_max_7cf53_2 : decode cJ9_max_7cf53 2 = .ok (.if_icmp .lt 7, 3) := by decide +kernel
theorem dJ9_max_7cf53_5 : decode cJ9_max_7cf53 5 = .ok (.iload_n 0, 1) := by decide +kernel
theorem dJ9_max_7cf53_6 : decode cJ9_max_7cf53 6 = .ok (.goto 4, 3) := by decide +kernel
theorem dJ9_max_7cf53_9 : decode cJ9_max_7cf53 9 = .ok (.iload_n 1, 1) := by decide +kernel
theorem dJ9_max_7cf53_10 : decode cJ9_max_7cf53 10 = .ok (.ireturn, 1) := by decide +kernel
theorem dJ9_min_7cf53_0 : decode cJ9_min_7cf53 0 = .ok (.iload_n 0, 1) := by decide +kernel
theorem dJ9_min_7cf53_1 : decode cJ9_min_7cf53 1 = .ok (.iload_n 1, 1) := by decide +kernel
theorem dJ9_min_7cf53_2 : decode cJ9_min_7cf53 2 = .ok (.if_icmp .gt 7, 3) := by decide +kernel
theorem dJ9_min_7cf53_5 : decode cJ9_min_7cf53 5 = .ok (.iload_n 0, 1) := by decide +kernel
theorem dJ9_min_7cf53_6 : decode cJ9_min_7cf53 6 = .ok (.goto 4, 3) := by decide +kernel
theorem dJ9_min_7cf53_9 : decode cJ9_min_7cf53 9 = .ok (.iload_n 1, 1) := by decide +kernel
theorem dJ9_min_7cf53_10 : decode cJ9_min_7cf53 10 = .ok (.ireturn, 1) := by decide +kernel
theorem dJ0_length_8abf5_0 : decode cJ0_length_8abf5 0 = .ok (.aload_n 0, 1) := by decide +kernel
theorem dJ0_length_8abf5_1 : decode cJ0_length_8abf5 1 = .ok (.getfield 9, 3) := by decide +kernel
theorem dJ0_length_8abf5_4 : decode cJ0_length_8abf5 4 = .ok (.arraylength, 1) := by decide +kernel
theorem dJ0_length_8abf5_5 : decode cJ0_length_8abf5 5 = .ok (.aload_n 0, 1) := by decide +kernel
theorem dJ0_length_8abf5_6 : decode cJ0_length_8abf5 6 = .ok (.invokevirtual 335, 3) := by decide +kernel
theorem dJ0_length_8abf5_9 : decode cJ0_length_8abf5 9 = .ok (.ishr, 1) := by decide +kernel
theorem dJ0_length_8abf5_10 : decode cJ0_length_8abf5 10 = .ok (.ireturn, 1) := by decide +kernel
theorem dJ0_charAt_5068e_0 : decode cJ0_charAt_5068e 0 = .ok (.aload_n 0, 1) := by decide +kernel
theorem dJ0_charAt_5068e_1 : decode cJ0_charAt_5068e 1 = .ok (.invokevirtual 492, 3) := by decide +kernel
theorem dJ0_charAt_5068e_4 : decode cJ0_charAt_5068e 4 = .ok (.ifCond .eq 12, 3) := by decide +kernel
theorem dJ0_charAt_5068e_7 : decode cJ0_charAt_5068e 7 = .ok (.aload_n 0, 1) := by decide +kernel
theorem dJ0_charAt_5068e_8 : decode cJ0_charAt_5068e 8 = .ok (.getfield 9, 3) := by decide +kernel
theorem dJ0_charAt_5068e_11 : decode cJ0_charAt_5068e 11 = .ok (.iload_n 1, 1) := by decide +kernel
theorem dJ0_charAt_5068e_12 : decode cJ0_charAt_5068e 12 = .ok (.invokestatic 495, 3) := by decide +kernel
theorem dJ0_charAt_5068e_15 : decode cJ0_charAt_5068e 15 = .ok (.ireturn, 1) := by decide +kernel
theorem dJ0_charAt_5068e_16 : decode cJ0_charAt_5068e 16 = .ok (.aload_n 0, 1) := by decide +kernel
theorem dJ0_charAt_5068e_17 : decode cJ0_charAt_5068e 17 = .ok (.getfield 9, 3) := by decide +kernel
theorem dJ0_charAt_5068e_20 : decode cJ0_charAt_5068e 20 = .ok (.iload_n 1, 1) := by decide +kernel
theorem dJ0_charAt_5068e_21 : decode cJ0_charAt_5068e 21 = .ok (.invokestatic 498, 3) := by decide +kernel
theorem dJ0_charAt_5068e_24 : decode cJ0_charAt_5068e 24 = .ok (.ireturn, 1) := by decide +kernel
theorem dJ0_coder_7d493_0 : decode cJ0_coder_7d493 0 = .ok (.getstatic 38, 3) := by decide +kernel
theorem dJ0_coder_7d493_3 : decode cJ0_coder_7d493 3 = .ok (.ifCond .eq 10, 3) := by decide +kernel
theorem dJ0_coder_7d493_6 : decode cJ0_coder_7d493 6 = .ok (.aload_n 0, 1) := by decide +kernel
theorem dJ0_coder_7d493_7 : decode cJ0_coder_7d493 7 = .ok (.getfield 15, 3) := by decide +kernel
theorem dJ0_coder_7d493_10 : decode cJ0_coder_7d493 10 = .ok (.goto 4, 3) := by decide +kernel
theorem dJ0_coder_7d493_13 : decode cJ0_coder_7d493 13 = .ok (.iconst 1, 1) := by decide +kernel
theorem dJ0_coder_7d493_14 : decode cJ0_coder_7d493 14 = .ok (.ireturn, 1) := by decide +kernel
theorem dJ0_isLatin1_aae02_0 : decode cJ0_isLatin1_aae02 0 = .ok (.getstatic 38, 3) := by decide +kernel
theorem dJ0_isLatin1_aae02_3 : decode cJ0_isLatin1_aae02 3 = .ok (.ifCond .eq 14, 3) := by decide +kernel
theorem dJ0_isLatin1_aae02_6 : decode cJ0_isLatin1_aae02 6 = .ok (.aload_n 0, 1) := by decide +kernel
theorem dJ0_isLatin1_aae02_7 : decode cJ0_isLatin1_aae02 7 = .ok (.getfield 15, 3) := by decide +kernel
theorem dJ0_isLatin1_aae02_10 : decode cJ0_isLatin1_aae02 10 = .ok (.ifCond .ne 7, 3) := by decide +kernel
theorem dJ0_isLatin1_aae02_13 : decode cJ0_isLatin1_aae02 13 = .ok (.iconst 1, 1) := by decide +kernel
theorem dJ0_isLatin1_aae02_14 : decode cJ0_isLatin1_aae02 14 = .ok (.goto 4, 3) := by decide +kernel
theorem dJ0_isLatin1_aae02_17 : decode cJ0_isLatin1_aae02 17 = .ok (.iconst 0, 1) := by decide +kernel
theorem dJ0_isLatin1_aae02_18 : decode cJ0_isLatin1_aae02 18 = .ok (.ireturn, 1) := by decide +kernel
theorem dJ0_checkIndex_df160_0 : decode cJ0_checkIndex_df160 0 = .ok (.iload_n 0, 1) := by decide +kernel
theorem dJ0_checkIndex_df160_1 : decode cJ0_checkIndex_df160 1 = .ok (.iload_n 1, 1) := by decide +kernel
theorem dJ0_checkIndex_df160_2 : decode cJ0_checkIndex_df160 2 = .ok (.getstatic 1053, 3) := by decide +kernel
theorem dJ0_checkIndex_df160_5 : decode cJ0_checkIndex_df160 5 = .ok (.invokestatic 1059, 3) := by decide +kernel
theorem dJ0_checkIndex_df160_8 : decode cJ0_checkIndex_df160 8 = .ok (.pop, 1) := by decide +kernel
theorem dJ0_checkIndex_df160_9 : decode cJ0_checkIndex_df160 9 = .ok (.return_, 1) := by decide +kernel
theorem dJ1_charAt_3b067_0 : decode cJ1_charAt_3b067 0 = .ok (.iload_n 1, 1) := by decide +kernel
theorem dJ1_charAt_3b067_1 : decode cJ1_charAt_3b067 1 = .ok (.aload_n 0, 1) := by decide +kernel
theorem dJ1_charAt_3b067_2 : decode cJ1_charAt_3b067 2 = .ok (.arraylength, 1) := by decide +kernel
theorem dJ1_charAt_3b067_3 : decode cJ1_charAt_3b067 3 = .ok (.invokestatic 9, 3) := by decide +kernel
theorem dJ1_charAt_3b067_6 : decode cJ1_charAt_3b067 6 = .ok (.aload_n 0, 1) := by decide +kernel
theorem dJ1_charAt_3b067_7 : decode cJ1_charAt_3b067 7 = .ok (.iload_n 1, 1) := by decide +kernel
theorem dJ1_charAt_3b067_8 : decode cJ1_charAt_3b067 8 = .ok (.baload, 1) := by decide +kernel
theorem dJ1_charAt_3b067_9 : decode cJ1_charAt_3b067 9 = .ok (.sipush 255, 3) := by decide +kernel
theorem dJ1_charAt_3b067_12 : decode cJ1_charAt_3b067 12 = .ok (.iand, 1) := by decide +kernel
theorem dJ1_charAt_3b067_13 : decode cJ1_charAt_3b067 13 = .ok (.i2c, 1) := by decide +kernel
theorem dJ1_charAt_3b067_14 : decode cJ1_charAt_3b067 14 = .ok (.ireturn, 1) := by decide +kernel
theorem dJ2_getChar_3b067_0 : decode cJ2_getChar_3b067 0 = .ok (.getstatic 44, 3) := by decide +kernel
theorem dJ2_getChar_3b067_3 : decode cJ2_getChar_3b067 3 = .ok (.ifCond .ne 25, 3) := by decide +kernel
theorem dJ2_getChar_3b067_6 : decode cJ2_getChar_3b067 6 = .ok (.iload_n 1, 1) := by decide +kernel
theorem dJ2_getChar_3b067_7 : decode cJ2_getChar_3b067 7 = .ok (.ifCond .lt 11, 3) := by decide +kernel
theorem dJ2_getChar_3b067_10 : decode cJ2_getChar_3b067 10 = .ok (.iload_n 1, 1) := by decide +kernel
theorem dJ2_getChar_3b067_11 : decode cJ2_getChar_3b067 11 = .ok (.aload_n 0, 1) := by decide +kernel
theorem dJ2_getChar_3b067_12 : decode cJ2_getChar_3b067 12 = .ok (.invokestatic 48, 3) := by decide +kernel
theorem dJ2_getChar_3b067_15 : decode cJ2_getChar_3b067 15 = .ok (.if_icmp .lt 13, 3) := by decide +kernel
theorem dJ2_getChar_3b067_18 : decode cJ2_getChar_3b067 18 = .ok (.new 52, 3) := by decide +kernel
theorem dJ2_getChar_3b067_21 : decode cJ2_getChar_3b067 21 = .ok (.dup, 1) := by decide +kernel
theorem dJ2_getChar_3b067_22 : decode cJ2_getChar_3b067 22 = .ok (.ldc 54, 2) := by decide +kernel
theorem dJ2_getChar_3b067_24 : decode cJ2_getChar_3b067 24 = .ok (.invokespecial 56, 3) := by decide +kernel
theorem dJ2_getChar_3b067_27 : decode cJ2_getChar_3b067 27 = .ok (.athrow, 1) := by decide +kernel
theorem dJ2_getChar_3b067_28 : decode cJ2_getChar_3b067 28 = .ok (.iload_n 1, 1) := by decide +kernel
theorem dJ2_getChar_3b067_29 : decode cJ2_getChar_3b067 29 = .ok (.iconst 1, 1) := by decide +kernel
theorem dJ2_getChar_3b067_30 : decode cJ2_getChar_3b067 30 = .ok (.ishl, 1) := by decide +kernel
theorem dJ2_getChar_3b067_31 : decode cJ2_getChar_3b067 31 = .ok (.istore_n 1, 1) := by decide +kernel
theorem dJ2_getChar_3b067_32 : decode cJ2_getChar_3b067 32 = .ok (.aload_n 0, 1) := by decide +kernel
theorem dJ2_getChar_3b067_33 : decode cJ2_getChar_3b067 33 = .ok (.iload_n 1, 1) := by decide +kernel
theorem dJ2_getChar_3b067_34 : decode cJ2_getChar_3b067 34 = .ok (.iinc 1 1, 3) := by decide +kernel
theorem dJ2_getChar_3b067_37 : decode cJ2_getChar_3b067 37 = .ok (.baload, 1) := by decide +kernel
theorem dJ2_getChar_3b067_38 : decode cJ2_getChar_3b067 38 = .ok (.sipush 255, 3) := by decide +kernel
theorem dJ2_getChar_3b067_41 : decode cJ2_getChar_3b067 41 = .ok (.iand, 1) := by decide +kernel
theorem dJ2_getChar_3b067_42 : decode cJ2_getChar_3b067 42 = .ok (.getstatic 59, 3) := by decide +kernel
theorem dJ2_getChar_3b067_45 : decode cJ2_getChar_3b067 45 = .ok (.ishl, 1) := by decide +kernel
theorem dJ2_getChar_3b067_46 : decode cJ2_getChar_3b067 46 = .ok (.aload_n 0, 1) := by decide +kernel
theorem dJ2_getChar_3b067_47 : decode cJ2_getChar_3b067 47 = .ok (.iload_n 1, 1) := by decide +kernel
theorem dJ2_getChar_3b067_48 : decode cJ2_getChar_3b067 48 = .ok (.baload, 1) := by decide +kernel
theorem dJ2_getChar_3b067_49 : decode cJ2_getChar_3b067 49 = .ok (.sipush 255, 3) := by decide +kernel
theorem dJ2_getChar_3b067_52 : decode cJ2_getChar_3b067 52 = .ok (.iand, 1) := by decide +kernel
theorem dJ2_getChar_3b067_53 : decode cJ2_getChar_3b067 53 = .ok (.getstatic 63, 3) := by decide +kernel
theorem dJ2_getChar_3b067_56 : decode cJ2_getChar_3b067 56 = .ok (.ishl, 1) := by decide +kernel
theorem dJ2_getChar_3b067_57 : decode cJ2_getChar_3b067 57 = .ok (.ior, 1) := by decide +kernel
theorem dJ2_getChar_3b067_58 : decode cJ2_getChar_3b067 58 = .ok (.i2c, 1) := by decide +kernel
theorem dJ2_getChar_3b067_59 : decode cJ2_getChar_3b067 59 = .ok (.ireturn, 1) := by decide +kernel
theorem dJ2_length_9d52b_0 : decode cJ2_length_9d52b 0 = .ok (.aload_n 0, 1) := by decide +kernel
theorem dJ2_length_9d52b_1 : decode cJ2_length_9d52b 1 = .ok (.arraylength, 1) := by decide +kernel
theorem dJ2_length_9d52b_2 : decode cJ2_length_9d52b 2 = .ok (.iconst 1, 1) := by decide +kernel
theorem dJ2_length_9d52b_3 : decode cJ2_length_9d52b 3 = .ok (.ishr, 1) := by decide +kernel
theorem dJ2_length_9d52b_4 : decode cJ2_length_9d52b 4 = .ok (.ireturn, 1) := by decide +kernel
theorem dJ2_charAt_3b067_0 : decode cJ2_charAt_3b067 0 = .ok (.iload_n 1, 1) := by decide +kernel
theorem dJ2_charAt_3b067_1 : decode cJ2_charAt_3b067 1 = .ok (.aload_n 0, 1) := by decide +kernel
theorem dJ2_charAt_3b067_2 : decode cJ2_charAt_3b067 2 = .ok (.invokestatic 67, 3) := by decide +kernel
theorem dJ2_charAt_3b067_5 : decode cJ2_charAt_3b067 5 = .ok (.aload_n 0, 1) := by decide +kernel
theorem dJ2_charAt_3b067_6 : decode cJ2_charAt_3b067 6 = .ok (.iload_n 1, 1) := by decide +kernel
theorem dJ2_charAt_3b067_7 : decode cJ2_charAt_3b067 7 = .ok (.invokestatic 71, 3) := by decide +kernel
theorem dJ2_charAt_3b067_10 : decode cJ2_charAt_3b067 10 = .ok (.ireturn, 1) := by decide +kernel
theorem dJ2_checkIndex_2214a_0 : decode cJ2_checkIndex_2214a 0 = .ok (.iload_n 0, 1) := by decide +kernel
theorem dJ2_checkIndex_2214a_1 : decode cJ2_checkIndex_2214a 1 = .ok (.aload_n 1, 1) := by decide +kernel
theorem dJ2_checkIndex_2214a_2 : decode cJ2_checkIndex_2214a 2 = .ok (.invokestatic 48, 3) := by decide +kernel
theorem dJ2_checkIndex_2214a_5 : decode cJ2_checkIndex_2214a 5 = .ok (.invokestatic 414, 3) := by decide +kernel
theorem dJ2_checkIndex_2214a_8 : decode cJ2_checkIndex_2214a 8 = .ok (.return_, 1) := by decide +kernel
theorem dJ3_checkIndex_8e157_0 : decode cJ3_checkIndex_8e157 0 = .ok (.iload_n 0, 1) := by decide +kernel
theorem dJ3_checkIndex_8e157_1 : decode cJ3_checkIndex_8e157 1 = .ok (.ifCond .lt 8, 3) := by decide +kernel
theorem dJ3_checkIndex_8e157_4 : decode cJ3_checkIndex_8e157 4 = .ok (.iload_n 0, 1) := by decide +kernel
theorem dJ3_checkIndex_8e157_5 : decode cJ3_checkIndex_8e157 5 = .ok (.iload_n 1, 1) := by decide +kernel
theorem dJ3_checkIndex_8e157_6 : decode cJ3_checkIndex_8e157 6 = .ok (.if_icmp .lt 10, 3) := by decide +kernel
theorem dJ3_checkIndex_8e157_9 : decode cJ3_checkIndex_8e157 9 = .ok (.aload_n 2, 1) := by decide +kernel
theorem dJ3_checkIndex_8e157_10 : decode cJ3_checkIndex_8e157 10 = .ok (.iload_n 0, 1) := by decide +kernel
theorem dJ3_checkIndex_8e157_11 : decode cJ3_checkIndex_8e157 11 = .ok (.iload_n 1, 1) := by decide +kernel
theorem dJ3_checkIndex_8e157_12 : decode cJ3_checkIndex_8e157 12 = .ok (.invokestatic 95, 3) := by decide +kernel
theorem dJ3_checkIndex_8e157_15 : decode cJ3_checkIndex_8e157 15 = .ok (.athrow, 1) := by decide +kernel
theorem dJ3_checkIndex_8e157_16 : decode cJ3_checkIndex_8e157 16 = .ok (.iload_n 0, 1) := by decide +kernel
theorem dJ3_checkIndex_8e157_17 : decode cJ3_checkIndex_8e157 17 = .ok (.ireturn, 1) := by decide +kernel
end
section
theorem dX8_init_0 : decode cX8_init 0 = .ok (.aload_n 0, 1) := by decide +kernel
theorem dX8_init_1 : decode cX8_init 1 = .ok (.invokespecial 1, 3) := by decide +kernel
theorem dX8_init_4 : decode cX8_init 4 = .ok (.aload_n 0, 1) := by decide +kernel
theorem dX8_init_5 : decode cX8_init 5 = .ok (.bipush 11, 2) := by decide +kernel
theorem dX8_init_7 : decode cX8_init 7 = .ok (.newarray .int, 2) := by decide +kernel
theorem dX8_init_9 : decode cX8_init 9 = .ok (.putfield 7, 3) := by decide +kernel
theorem dX8_init_12 : decode cX8_init 12 = .ok (.aload_n 0, 1) := by decide +kernel
theorem dX8_init_13 : decode cX8_init 13 = .ok (.bipush 11, 2) := by decide +kernel
theorem dX8_init_15 : decode cX8_init 15 = .ok (.newarray .int, 2) := by decide +kernel
theorem dX8_init_17 : decode cX8_init 17 = .ok (.putfield 13, 3) := by decide +kernel
theorem dX8_init_20 : decode cX8_init 20 = .ok (.aload_n 0, 1) := by decide +kernel
theorem dX8_init_21 : decode cX8_init 21 = .ok (.bipush 11, 2) := by decide +kernel
theorem dX8_init_23 : decode cX8_init 23 = .ok (.newarray .int, 2) := by decide +kernel
theorem dX8_init_25 : decode cX8_init 25 = .ok (.putfield 16, 3) := by decide +kernel
theorem dX8_init_28 : decode cX8_init 28 = .ok (.aload_n 0, 1) := by decide +kernel
theorem dX8_init_29 : decode cX8_init 29 = .ok (.bipush 11, 2) := by decide +kernel
theorem dX8_init_31 : decode cX8_init 31 = .ok (.newarray .int, 2) := by decide +kernel
theorem dX8_init_33 : decode cX8_init 33 = .ok (.putfield 19, 3) := by decide +kernel
theorem dX8_init_36 : decode cX8_init 36 = .ok (.aload_n 0, 1) := by decide +kernel
theorem dX8_init_37 : decode cX8_init 37 = .ok (.bipush 11, 2) := by decide +kernel
theorem dX8_init_39 : decode cX8_init 39 = .ok (.newarray .int, 2) := by decide +kernel
theorem dX8_init_41 : decode cX8_init 41 = .ok (.putfield 22, 3) := by decide +kernel
theorem dX8_init_44 : decode cX8_init 44 = .ok (.aload_n 0, 1) := by decide +kernel
theorem dX8_init_45 : decode cX8_init 45 = .ok (.bipush 11, 2) := by decide +kernel
theorem dX8_init_47 : decode cX8_init 47 = .ok (.newarray .int, 2) := by decide +kernel
theorem dX8_init_49 : decode cX8_init 49 = .ok (.putfield 25, 3) := by decide +kernel
theorem dX8_init_52 : decode cX8_init 52 = .ok (.aload_n 0, 1) := by decide +kernel
theorem dX8_init_53 : decode cX8_init 53 = .ok (.bipush 11, 2) := by decide +kernel
theorem dX8_init_55 : decode cX8_init 55 = .ok (.newarray .int, 2) := by decide +kernel
theorem dX8_init_57 : decode cX8_init 57 = .ok (.putfield 28, 3) := by decide +kernel
theorem dX8_init_60 : decode cX8_init 60 = .ok (.aload_n 0, 1) := by decide +kernel
theorem dX8_init_61 : decode cX8_init 61 = .ok (.bipush 11, 2) := by decide +kernel
theorem dX8_init_63 : decode cX8_init 63 = .ok (.newarray .int, 2) := by decide +kernel
theorem dX8_init_65 : decode cX8_init 65 = .ok (.putfield 31, 3) := by decide +kernel
theorem dX8_init_68 : decode cX8_init 68 = .ok (.aload_n 0, 1) := by decide +kernel
theorem dX8_init_69 : decode cX8_init 69 = .ok (.bipush 11, 2) := by decide +kernel
theorem dX8_init_71 : decode cX8_init 71 = .ok (.newarray .int, 2) := by decide +kernel
theorem dX8_init_73 : decode cX8_init 73 = .ok (.putfield 34, 3) := by decide +kernel
theorem dX8_init_76 : decode cX8_init 76 = .ok (.aload_n 0, 1) := by decide +kernel
theorem dX8_init_77 : decode cX8_init 77 = .ok (.bipush 11, 2) := by decide +kernel
theorem dX8_init_79 : decode cX8_init 79 = .ok (.newarray .boolean, 2) := by decide +kernel
theorem dX8_init_81 : decode cX8_init 81 = .ok (.putfield 37, 3) := by decide +kernel
theorem dX8_init_84 : decode cX8_init 84 = .ok (.aload_n 0, 1) := by decide +kernel
theorem dX8_init_85 : decode cX8_init 85 = .ok (.bipush 40, 2) := by decide +kernel
theorem dX8_init_87 : decode cX8_init 87 = .ok (.newarray .int, 2) := by decide +kernel
theorem dX8_init_89 : decode cX8_init 89 = .ok (.putfield 41, 3) := by decide +kernel
theorem dX8_init_92 : decode cX8_init 92 = .ok (.aload_n 0, 1) := by decide +kernel
theorem dX8_init_93 : decode cX8_init 93 = .ok (.bipush 40, 2) := by decide +kernel
theorem dX8_init_95 : decode cX8_init 95 = .ok (.newarray .int, 2) := by decide +kernel
theorem dX8_init_97 : decode cX8_init 97 = .ok (.putfield 44, 3) := by decide +kernel
theorem dX8_init_100 : decode cX8_init 100 = .ok (.aload_n 0, 1) := by decide +kernel
theorem dX8_init_101 : decode cX8_init 101 = .ok (.bipush 40, 2) := by decide +kernel
theorem dX8_init_103 : decode cX8_init 103 = .ok (.newarray .int, 2) := by decide +kernel
theorem dX8_init_105 : decode cX8_init 105 = .ok (.putfield 47, 3) := by decide +kernel
theorem dX8_init_108 : decode cX8_init 108 = .ok (.aload_n 0, 1) := by decide +kernel
theorem dX8_init_109 : decode cX8_init 109 = .ok (.bipush 40, 2) := by decide +kernel
theorem dX8_init_111 : decode cX8_init 111 = .ok (.newarray .int, 2) := by decide +kernel
theorem dX8_init_113 : decode cX8_init 113 = .ok (.putfield 50, 3) := by decide +kernel
theorem dX8_init_116 : decode cX8_init 116 = .ok (.aload_n 0, 1) := by decide +kernel
theorem dX8_init_117 : decode cX8_init 117 = .ok (.bipush 40, 2) := by decide +kernel
theorem dX8_init_119 : decode cX8_init 119 = .ok (.newarray .int, 2) := by decide +kernel
theorem dX8_init_121 : decode cX8_init 121 = .ok (.putfield 53, 3) := by decide +kernel
theorem dX8_init_124 : decode cX8_init 124 = .ok (.aload_n 0, 1) := by decide +kernel
theorem dX8_init_125 : decode cX8_init 125 = .ok (.bipush 40, 2) := by decide +kernel
theorem dX8_init_127 : decode cX8_init 127 = .ok (.newarray .int, 2) := by decide +kernel
theorem dX8_init_129 : decode cX8_init 129 = .ok (.putfield 56, 3) := by decide +kernel
theorem dX8_init_132 : decode cX8_init 132 = .ok (.aload_n 0, 1) := by decide +kernel
theorem dX8_init_133 : decode cX8_init 133 = .ok (.bipush 40, 2) := by decide +kernel
theorem dX8_init_135 : decode cX8_init 135 = .ok (.newarray .int, 2) := by decide +kernel
theorem dX8_init_137 : decode cX8_init 137 = .ok (.putfield 59, 3) := by decide +kernel
theorem dX8_init_140 : decode cX8_init 140 = .ok (.aload_n 0, 1) := by decide +kernel
theorem dX8_init_141 : decode cX8_init 141 = .ok (.bipush 40, 2) := by decide +kernel
theorem dX8_init_143 : decode cX8_init 143 = .ok (.newarray .boolean, 2) := by decide +kernel
theorem dX8_init_145 : decode cX8_init 145 = .ok (.putfield 62, 3) := by decide +kernel
theorem dX8_init_148 : decode cX8_init 148 = .ok (.aload_n 0, 1) := by decide +kernel
theorem dX8_init_149 : decode cX8_init 149 = .ok (.bipush 10, 2) := by decide +kernel
theorem dX8_init_151 : decode cX8_init 151 = .ok (.newarray .int, 2) := by decide +kernel
theorem dX8_init_153 : decode cX8_init 153 = .ok (.putfield 65, 3) := by decide +kernel
theorem dX8_init_156 : decode cX8_init 156 = .ok (.aload_n 0, 1) := by decide +kernel
theorem dX8_init_157 : decode cX8_init 157 = .ok (.iconst (-1), 1) := by decide +kernel
theorem dX8_init_158 : decode cX8_init 158 = .ok (.putfield 68, 3) := by decide +kernel
theorem dX8_init_161 : decode cX8_init 161 = .ok (.aload_n 0, 1) := by decide +kernel
theorem dX8_init_162 : decode cX8_init 162 = .ok (.iconst (-1), 1) := by decide +kernel
theorem dX8_init_163 : decode cX8_init 163 = .ok (.putfield 72, 3) := by decide +kernel
theorem dX8_init_166 : decode cX8_init 166 = .ok (.aload_n 0, 1) := by decide +kernel
theorem dX8_init_167 : decode cX8_init 167 = .ok (.iconst (-1), 1) := by decide +kernel
theorem dX8_init_168 : decode cX8_init 168 = .ok (.putfield 75, 3) := by decide +kernel
theorem dX8_init_171 : decode cX8_init 171 = .ok (.aload_n 0, 1) := by decide +kernel
theorem dX8_init_172 : decode cX8_init 172 = .ok (.sipush 300, 3) := by decide +kernel
theorem dX8_init_175 : decode cX8_init 175 = .ok (.newarray .byte, 2) := by decide +kernel
theorem dX8_init_177 : decode cX8_init 177 = .ok (.putfield 78, 3) := by decide +kernel
theorem dX8_init_180 : decode cX8_init 180 = .ok (.aload_n 0, 1) := by decide +kernel
theorem dX8_init_181 : decode cX8_init 181 = .ok (.sipush 300, 3) := by decide +kernel
theorem dX8_init_184 : decode cX8_init 184 = .ok (.newarray .byte, 2) := by decide +kernel
theorem dX8_init_186 : decode cX8_init 186 = .ok (.putfield 82, 3) := by decide +kernel
theorem dX8_init_189 : decode cX8_init 189 = .ok (.aload_n 0, 1) := by decide +kernel
theorem dX8_init_190 : decode cX8_init 190 = .ok (.iconst (-1), 1) := by decide +kernel
theorem dX8_init_191 : decode cX8_init 191 = .ok (.putfield 85, 3) := by decide +kernel
theorem dX8_init_194 : decode cX8_init 194 = .ok (.aload_n 0, 1) := by decide +kernel
theorem dX8_init_195 : decode cX8_init 195 = .ok (.bipush 28, 2) := by decide +kernel
theorem dX8_init_197 : decode cX8_init 197 = .ok (.newarray .int, 2) := by decide +kernel
theorem dX8_init_199 : decode cX8_init 199 = .ok (.putfield 88, 3) := by decide +kernel
theorem dX8_init_202 : decode cX8_init 202 = .ok (.aload_n 0, 1) := by decide +kernel
theorem dX8_init_203 : decode cX8_init 203 = .ok (.bipush 40, 2) := by decide +kernel
theorem dX8_init_205 : decode cX8_init 205 = .ok (.newarray .int, 2) := by decide +kernel
theorem dX8_init_207 : decode cX8_init 207 = .ok (.putfield 91, 3) := by decide +kernel
theorem dX8_init_210 : decode cX8_init 210 = .ok (.aload_n 0, 1) := by decide +kernel
theorem dX8_init_211 : decode cX8_init 211 = .ok (.bipush 40, 2) := by decide +kernel
theorem dX8_init_213 : decode cX8_init 213 = .ok (.newarray .int, 2) := by decide +kernel
theorem dX8_init_215 : decode cX8_init 215 = .ok (.putfield 94, 3) := by decide +kernel
theorem dX8_init_218 : decode cX8_init 218 = .ok (.aload_n 0, 1) := by decide +kernel
theorem dX8_init_219 : decode cX8_init 219 = .ok (.bipush 40, 2) := by decide +kernel
theorem dX8_init_221 : decode cX8_init 221 = .ok (.newarray .boolean, 2) := by decide +kernel
theorem dX8_init_223 : decode cX8_init 223 = .ok (.putfield 97, 3) := by decide +kernel
theorem dX8_init_226 : decode cX8_init 226 = .ok (.aload_n 0, 1) := by decide +kernel
theorem dX8_init_227 : decode cX8_init 227 = .ok (.bipush 11, 2) := by decide +kernel
theorem dX8_init_229 : decode cX8_init 229 = .ok (.newarray .int, 2) := by decide +kernel
theorem dX8_init_231 : decode cX8_init 231 = .ok (.putfield 100, 3) := by decide +kernel
theorem dX8_init_234 : decode cX8_init 234 = .ok (.aload_n 0, 1) := by decide +kernel
theorem dX8_init_235 : decode cX8_init 235 = .ok (.bipush 11, 2) := by decide +kernel
theorem dX8_init_237 : decode cX8_init 237 = .ok (.newarray .int, 2) := by decide +kernel
theorem dX8_init_239 : decode cX8_init 239 = .ok (.putfield 103, 3) := by decide +kernel
theorem dX8_init_242 : decode cX8_init 242 = .ok (.aload_n 0, 1) := by decide +kernel
theorem dX8_init_243 : decode cX8_init 243 = .ok (.bipush 11, 2) := by decide +kernel
theorem dX8_init_245 : decode cX8_init 245 = .ok (.newarray .boolean, 2) := by decide +kernel
theorem dX8_init_247 : decode cX8_init 247 = .ok (.putfield 106, 3) := by decide +kernel
theorem dX8_init_250 : decode cX8_init 250 = .ok (.aload_n 0, 1) := by decide +kernel
theorem dX8_init_251 : decode cX8_init 251 = .ok (.iconst 2, 1) := by decide +kernel
theorem dX8_init_252 : decode cX8_init 252 = .ok (.bipush 11, 2) := by decide +kernel
theorem dX8_init_254 : decode cX8_init 254 = .ok (.iload_n 1, 1) := by decide +kernel
theorem dX8_init_255 : decode cX8_init 255 = .ok (.invokestatic 109, 3) := by decide +kernel
theorem dX8_init_258 : decode cX8_init 258 = .ok (.invokestatic 115, 3) := by decide +kernel
theorem dX8_init_261 : decode cX8_init 261 = .ok (.putfield 118, 3) := by decide +kernel
theorem dX8_init_264 : decode cX8_init 264 = .ok (.iconst 0, 1) := by decide +kernel
theorem dX8_init_265 : decode cX8_init 265 = .ok (.istore_n 2, 1) := by decide +kernel
theorem dX8_init_266 : decode cX8_init 266 = .ok (.iload_n 2, 1) := by decide +kernel
theorem dX8_init_267 : decode cX8_init 267 = .ok (.bipush 11, 2) := by decide +kernel
theorem dX8_init_269 : decode cX8_init 269 = .ok (.if_icmp .ge 32, 3) := by decide +kernel
theorem dX8_init_272 : decode cX8_init 272 = .ok (.aload_n 0, 1) := by decide +kernel
theorem dX8_init_273 : decode cX8_init 273 = .ok (.getfield 13, 3) := by decide +kernel
theorem dX8_init_276 : decode cX8_init 276 = .ok (.iload_n 2, 1) := by decide +kernel
theorem dX8_init_277 : decode cX8_init 277 = .ok (.bipush 100, 2) := by decide +kernel
theorem dX8_init_279 : decode cX8_init 279 = .ok (.iastore, 1) := by decide +kernel
theorem dX8_init_280 : decode cX8_init 280 = .ok (.aload_n 0, 1) := by decide +kernel
theorem dX8_init_281 : decode cX8_init 281 = .ok (.getfield 16, 3) := by decide +kernel
theorem dX8_init_284 : decode cX8_init 284 = .ok (.iload_n 2, 1) := by decide +kernel
theorem dX8_init_285 : decode cX8_init 285 = .ok (.bipush 50, 2) := by decide +kernel
theorem dX8_init_287 : decode cX8_init 287 = .ok (.iastore, 1) := by decide +kernel
theorem dX8_init_288 : decode cX8_init 288 = .ok (.aload_n 0, 1) := by decide +kernel
theorem dX8_init_289 : decode cX8_init 289 = .ok (.getfield 34, 3) := by decide +kernel
theorem dX8_init_292 : decode cX8_init 292 = .ok (.iload_n 2, 1) := by decide +kernel
theorem dX8_init_293 : decode cX8_init 293 = .ok (.iconst (-1), 1) := by decide +kernel
theorem dX8_init_294 : decode cX8_init 294 = .ok (.iastore, 1) := by decide +kernel
theorem dX8_init_295 : decode cX8_init 295 = .ok (.iinc 2 1, 3) := by decide +kernel
theorem dX8_init_298 : decode cX8_init 298 = .ok (.goto (-32), 3) := by decide +kernel
theorem dX8_init_301 : decode cX8_init 301 = .ok (.return_, 1) := by decide +kernel
theorem dX8_isIn_0 : decode cX8_isIn 0 = .ok (.iload_n 0, 1) := by decide +kernel
theorem dX8_isIn_1 : decode cX8_isIn 1 = .ok (.iload_n 1, 1) := by decide +kernel
theorem dX8_isIn_2 : decode cX8_isIn 2 = .ok (.if_icmp .lt 12, 3) := by decide +kernel
theorem dX8_isIn_5 : decode cX8_isIn 5 = .ok (.iload_n 0, 1) := by decide +kernel
theorem dX8_isIn_6 : decode cX8_isIn 6 = .ok (.iload_n 2, 1) := by decide +kernel
theorem dX8_isIn_7 : decode cX8_isIn 7 = .ok (.if_icmp .gt 7, 3) := by decide +kernel
theorem dX8_isIn_10 : decode cX8_isIn 10 = .ok (.iconst 1, 1) := by decide +kernel
theorem dX8_isIn_11 : decode cX8_isIn 11 = .ok (.goto 4, 3) := by decide +kernel
theorem dX8_isIn_14 : decode cX8_isIn 14 = .ok (.iconst 0, 1) := by decide +kernel
theorem dX8_isIn_15 : decode cX8_isIn 15 = .ok (.ireturn, 1) := by decide +kernel
theorem dX8_one_0 : decode cX8_one 0 = .ok (.iload_n 0, 1) := by decide +kernel
theorem dX8_one_1 : decode cX8_one 1 = .ok (.ifCond .eq 7, 3) := by decide +kernel
theorem dX8_one_4 : decode cX8_one 4 = .ok (.iconst 1, 1) := by decide +kernel
theorem dX8_one_5 : decode cX8_one 5 = .ok (.goto 4, 3) := by decide +kernel
theorem dX8_one_8 : decode cX8_one 8 = .ok (.iconst 0, 1) := by decide +kernel
theorem dX8_one_9 : decode cX8_one 9 = .ok (.ireturn, 1) := by decide +kernel
theorem dX8_isTank_0 : decode cX8_isTank 0 = .ok (.iload_n 1, 1) := by decide +kernel
theorem dX8_isTank_1 : decode cX8_isTank 1 = .ok (.iconst 0, 1) := by decide +kernel
theorem dX8_isTank_2 : decode cX8_isTank 2 = .ok (.aload_n 0, 1) := by decide +kernel
theorem dX8_isTank_3 : decode cX8_isTank 3 = .ok (.getfield 118, 3) := by decide +kernel
theorem dX8_isTank_6 : decode cX8_isTank 6 = .ok (.iconst 1, 1) := by decide +kernel
theorem dX8_isTank_7 : decode cX8_isTank 7 = .ok (.isub, 1) := by decide +kernel
theorem dX8_isTank_8 : decode cX8_isTank 8 = .ok (.invokestatic 121, 3) := by decide +kernel
theorem dX8_isTank_11 : decode cX8_isTank 11 = .ok (.ireturn, 1) := by decide +kernel
theorem dX8_tank_0 : decode cX8_tank 0 = .ok (.aload_n 0, 1) := by decide +kernel
theorem dX8_tank_1 : decode cX8_tank 1 = .ok (.iload_n 1, 1) := by decide +kernel
theorem dX8_tank_2 : decode cX8_tank 2 = .ok (.invokevirtual 125, 3) := by decide +kernel
theorem dX8_tank_5 : decode cX8_tank 5 = .ok (.ifCond .eq 44, 3) := by decide +kernel
theorem dX8_tank_8 : decode cX8_tank 8 = .ok (.iload_n 2, 1) := by decide +kernel
theorem dX8_tank_9 : decode cX8_tank 9 = .ok (.iconst 0, 1) := by decide +kernel
theorem dX8_tank_10 : decode cX8_tank 10 = .ok (.bipush 20, 2) := by decide +kernel
theorem dX8_tank_12 : decode cX8_tank 12 = .ok (.invokestatic 121, 3) := by decide +kernel
theorem dX8_tank_15 : decode cX8_tank 15 = .ok (.ifCond .eq 34, 3) := by decide +kernel
theorem dX8_tank_18 : decode cX8_tank 18 = .ok (.iload_n 3, 1) := by decide +kernel
theorem dX8_tank_19 : decode cX8_tank 19 = .ok (.bipush 10, 2) := by decide +kernel
theorem dX8_tank_21 : decode cX8_tank 21 = .ok (.sipush 1000, 3) := by decide +kernel
theorem dX8_tank_24 : decode cX8_tank 24 = .ok (.invokestatic 121, 3) := by decide +kernel
theorem dX8_tank_27 : decode cX8_tank 27 = .ok (.ifCond .eq 22, 3) := by decide +kernel
theorem dX8_tank_30 : decode cX8_tank 30 = .ok (.iload 4, 2) := by decide +kernel
theorem dX8_tank_32 : decode cX8_tank 32 = .ok (.iconst 0, 1) := by decide +kernel
theorem dX8_tank_33 : decode cX8_tank 33 = .ok (.sipush 500, 3) := by decide +kernel
theorem dX8_tank_36 : decode cX8_tank 36 = .ok (.invokestatic 121, 3) := by decide +kernel
theorem dX8_tank_39 : decode cX8_tank 39 = .ok (.ifCond .eq 10, 3) := by decide +kernel
theorem dX8_tank_42 : decode cX8_tank 42 = .ok (.aload_n 0, 1) := by decide +kernel
theorem dX8_tank_43 : decode cX8_tank 43 = .ok (.getfield 129, 3) := by decide +kernel
theorem dX8_tank_46 : decode cX8_tank 46 = .ok (.ifCond .le 5, 3) := by decide +kernel
theorem dX8_tank_49 : decode cX8_tank 49 = .ok (.iconst 0, 1) := by decide +kernel
theorem dX8_tank_50 : decode cX8_tank 50 = .ok (.ireturn, 1) := by decide +kernel
theorem dX8_tank_51 : decode cX8_tank 51 = .ok (.aload_n 0, 1) := by decide +kernel
theorem dX8_tank_52 : decode cX8_tank 52 = .ok (.getfield 7, 3) := by decide +kernel
theorem dX8_tank_55 : decode cX8_tank 55 = .ok (.iload_n 1, 1) := by decide +kernel
theorem dX8_tank_56 : decode cX8_tank 56 = .ok (.iload_n 2, 1) := by decide +kernel
theorem dX8_tank_57 : decode cX8_tank 57 = .ok (.iastore, 1) := by decide +kernel
theorem dX8_tank_58 : decode cX8_tank 58 = .ok (.aload_n 0, 1) := by decide +kernel
theorem dX8_tank_59 : decode cX8_tank 59 = .ok (.getfield 13, 3) := by decide +kernel
theorem dX8_tank_62 : decode cX8_tank 62 = .ok (.iload_n 1, 1) := by decide +kernel
theorem dX8_tank_63 : decode cX8_tank 63 = .ok (.iload_n 3, 1) := by decide +kernel
theorem dX8_tank_64 : decode cX8_tank 64 = .ok (.iastore, 1) := by decide +kernel
theorem dX8_tank_65 : decode cX8_tank 65 = .ok (.aload_n 0, 1) := by decide +kernel
theorem dX8_tank_66 : decode cX8_tank 66 = .ok (.getfield 16, 3) := by decide +kernel
theorem dX8_tank_69 : decode cX8_tank 69 = .ok (.iload_n 1, 1) := by decide +kernel
theorem dX8_tank_70 : decode cX8_tank 70 = .ok (.iload 4, 2) := by decide +kernel
theorem dX8_tank_72 : decode cX8_tank 72 = .ok (.iastore, 1) := by decide +kernel
theorem dX8_tank_73 : decode cX8_tank 73 = .ok (.iconst 1, 1) := by decide +kernel
theorem dX8_tank_74 : decode cX8_tank 74 = .ok (.ireturn, 1) := by decide +kernel
theorem dX8_room_0 : decode cX8_room 0 = .ok (.iload_n 2, 1) := by decide +kernel
theorem dX8_room_1 : decode cX8_room 1 = .ok (.ifCond .eq 7, 3) := by decide +kernel
theorem dX8_room_4 : decode cX8_room 4 = .ok (.iconst 0, 1) := by decide +kernel
theorem dX8_room_5 : decode cX8_room 5 = .ok (.goto 16, 3) := by decide +kernel
theorem dX8_room_8 : decode cX8_room 8 = .ok (.aload_n 0, 1) := by decide +kernel
theorem dX8_room_9 : decode cX8_room 9 = .ok (.getfield 13, 3) := by decide +kernel
theorem dX8_room_12 : decode cX8_room 12 = .ok (.iload_n 1, 1) := by decide +kernel
theorem dX8_room_13 : decode cX8_room 13 = .ok (.iaload, 1) := by decide +kernel
theorem dX8_room_14 : decode cX8_room 14 = .ok (.aload_n 0, 1) := by decide +kernel
theorem dX8_room_15 : decode cX8_room 15 = .ok (.getfield 25, 3) := by decide +kernel
theorem dX8_room_18 : decode cX8_room 18 = .ok (.iload_n 1, 1) := by decide +kernel
theorem dX8_room_19 : decode cX8_room 19 = .ok (.iaload, 1) := by decide +kernel
theorem dX8_room_20 : decode cX8_room 20 = .ok (.isub, 1) := by decide +kernel
theorem dX8_room_21 : decode cX8_room 21 = .ok (.ireturn, 1) := by decide +kernel
theorem dX8_water_0 : decode cX8_water 0 = .ok (.aload_n 0, 1) := by decide +kernel
theorem dX8_water_1 : decode cX8_water 1 = .ok (.iload_n 1, 1) := by decide +kernel
theorem dX8_water_2 : decode cX8_water 2 = .ok (.invokevirtual 125, 3) := by decide +kernel
theorem dX8_water_5 : decode cX8_water 5 = .ok (.ifCond .eq 22, 3) := by decide +kernel
theorem dX8_water_8 : decode cX8_water 8 = .ok (.iload_n 2, 1) := by decide +kernel
theorem dX8_water_9 : decode cX8_water 9 = .ok (.iconst 0, 1) := by decide +kernel
theorem dX8_water_10 : decode cX8_water 10 = .ok (.aload_n 0, 1) := by decide +kernel
theorem dX8_water_11 : decode cX8_water 11 = .ok (.iload_n 1, 1) := by decide +kernel
theorem dX8_water_12 : decode cX8_water 12 = .ok (.aload_n 0, 1) := by decide +kernel
theorem dX8_water_13 : decode cX8_water 13 = .ok (.getfield 37, 3) := by decide +kernel
theorem dX8_water_16 : decode cX8_water 16 = .ok (.iload_n 1, 1) := by decide +kernel
theorem dX8_water_17 : decode cX8_water 17 = .ok (.baload, 1) := by decide +kernel
theorem dX8_water_18 : decode cX8_water 18 = .ok (.invokevirtual 132, 3) := by decide +kernel
theorem dX8_water_21 : decode cX8_water 21 = .ok (.invokestatic 121, 3) := by decide +kernel
theorem dX8_water_24 : decode cX8_water 24 = .ok (.ifCond .ne 5, 3) := by decide +kernel
theorem dX8_water_27 : decode cX8_water 27 = .ok (.iconst 0, 1) := by decide +kernel
theorem dX8_water_28 : decode cX8_water 28 = .ok (.ireturn, 1) := by decide +kernel
theorem dX8_water_29 : decode cX8_water 29 = .ok (.aload_n 0, 1) := by decide +kernel
theorem dX8_water_30 : decode cX8_water 30 = .ok (.dup, 1) := by decide +kernel
theorem dX8_water_31 : decode cX8_water 31 = .ok (.getfield 136, 3) := by decide +kernel
theorem dX8_water_34 : decode cX8_water 34 = .ok (.iload_n 2, 1) := by decide +kernel
theorem dX8_water_35 : decode cX8_water 35 = .ok (.aload_n 0, 1) := by decide +kernel
theorem dX8_water_36 : decode cX8_water 36 = .ok (.getfield 19, 3) := by decide +kernel
theorem dX8_water_39 : decode cX8_water 39 = .ok (.iload_n 1, 1) := by decide +kernel
theorem dX8_water_40 : decode cX8_water 40 = .ok (.iaload, 1) := by decide +kernel
theorem dX8_water_41 : decode cX8_water 41 = .ok (.isub, 1) := by decide +kernel
theorem dX8_water_42 : decode cX8_water 42 = .ok (.iadd, 1) := by decide +kernel
theorem dX8_water_43 : decode cX8_water 43 = .ok (.putfield 136, 3) := by decide +kernel
theorem dX8_water_46 : decode cX8_water 46 = .ok (.aload_n 0, 1) := by decide +kernel
theorem dX8_water_47 : decode cX8_water 47 = .ok (.getfield 19, 3) := by decide +kernel
theorem dX8_water_50 : decode cX8_water 50 = .ok (.iload_n 1, 1) := by decide +kernel
theorem dX8_water_51 : decode cX8_water 51 = .ok (.iload_n 2, 1) := by decide +kernel
theorem dX8_water_52 : decode cX8_water 52 = .ok (.iastore, 1) := by decide +kernel
theorem dX8_water_53 : decode cX8_water 53 = .ok (.iconst 1, 1) := by decide +kernel
theorem dX8_water_54 : decode cX8_water 54 = .ok (.ireturn, 1) := by decide +kernel
theorem dX8_field_0 : decode cX8_field 0 = .ok (.aload_n 0, 1) := by decide +kernel
theorem dX8_field_1 : decode cX8_field 1 = .ok (.iload_n 1, 1) := by decide +kernel
theorem dX8_field_2 : decode cX8_field 2 = .ok (.invokevirtual 125, 3) := by decide +kernel
theorem dX8_field_5 : decode cX8_field 5 = .ok (.ifCond .eq 43, 3) := by decide +kernel
theorem dX8_field_8 : decode cX8_field 8 = .ok (.iload_n 2, 1) := by decide +kernel
theorem dX8_field_9 : decode cX8_field 9 = .ok (.iconst 0, 1) := by decide +kernel
theorem dX8_field_10 : decode cX8_field 10 = .ok (.bipush 9, 2) := by decide +kernel
theorem dX8_field_12 : decode cX8_field 12 = .ok (.invokestatic 121, 3) := by decide +kernel
theorem dX8_field_15 : decode cX8_field 15 = .ok (.ifCond .eq 33, 3) := by decide +kernel
theorem dX8_field_18 : decode cX8_field 18 = .ok (.iload_n 3, 1) := by decide +kernel
theorem dX8_field_19 : decode cX8_field 19 = .ok (.iconst 1, 1) := by decide +kernel
theorem dX8_field_20 : decode cX8_field 20 = .ok (.bipush 20, 2) := by decide +kernel
theorem dX8_field_22 : decode cX8_field 22 = .ok (.invokestatic 121, 3) := by decide +kernel
theorem dX8_field_25 : decode cX8_field 25 = .ok (.ifCond .eq 23, 3) := by decide +kernel
theorem dX8_field_28 : decode cX8_field 28 = .ok (.iload 4, 2) := by decide +kernel
theorem dX8_field_30 : decode cX8_field 30 = .ok (.iconst 0, 1) := by decide +kernel
theorem dX8_field_31 : decode cX8_field 31 = .ok (.bipush 9, 2) := by decide +kernel
theorem dX8_field_33 : decode cX8_field 33 = .ok (.invokestatic 121, 3) := by decide +kernel
theorem dX8_field_36 : decode cX8_field 36 = .ok (.ifCond .eq 12, 3) := by decide +kernel
theorem dX8_field_39 : decode cX8_field 39 = .ok (.aload_n 0, 1) := by decide +kernel
theorem dX8_field_40 : decode cX8_field 40 = .ok (.getfield 139, 3) := by decide +kernel
theorem dX8_field_43 : decode cX8_field 43 = .ok (.bipush 40, 2) := by decide +kernel
theorem dX8_field_45 : decode cX8_field 45 = .ok (.if_icmp .ne 5, 3) := by decide +kernel
theorem dX8_field_48 : decode cX8_field 48 = .ok (.iconst (-1), 1) := by decide +kernel
theorem dX8_field_49 : decode cX8_field 49 = .ok (.ireturn, 1) := by decide +kernel
theorem dX8_field_50 : decode cX8_field 50 = .ok (.aload_n 0, 1) := by decide +kernel
theorem dX8_field_51 : decode cX8_field 51 = .ok (.getfield 41, 3) := by decide +kernel
theorem dX8_field_54 : decode cX8_field 54 = .ok (.aload_n 0, 1) := by decide +kernel
theorem dX8_field_55 : decode cX8_field 55 = .ok (.getfield 139, 3) := by decide +kernel
theorem dX8_field_58 : decode cX8_field 58 = .ok (.iload_n 1, 1) := by decide +kernel
theorem dX8_field_59 : decode cX8_field 59 = .ok (.iastore, 1) := by decide +kernel
theorem dX8_field_60 : decode cX8_field 60 = .ok (.aload_n 0, 1) := by decide +kernel
theorem dX8_field_61 : decode cX8_field 61 = .ok (.getfield 44, 3) := by decide +kernel
theorem dX8_field_64 : decode cX8_field 64 = .ok (.aload_n 0, 1) := by decide +kernel
theorem dX8_field_65 : decode cX8_field 65 = .ok (.getfield 139, 3) := by decide +kernel
theorem dX8_field_68 : decode cX8_field 68 = .ok (.iload_n 2, 1) := by decide +kernel
theorem dX8_field_69 : decode cX8_field 69 = .ok (.iastore, 1) := by decide +kernel
theorem dX8_field_70 : decode cX8_field 70 = .ok (.aload_n 0, 1) := by decide +kernel
theorem dX8_field_71 : decode cX8_field 71 = .ok (.getfield 47, 3) := by decide +kernel
theorem dX8_field_74 : decode cX8_field 74 = .ok (.aload_n 0, 1) := by decide +kernel
theorem dX8_field_75 : decode cX8_field 75 = .ok (.getfield 139, 3) := by decide +kernel
theorem dX8_field_78 : decode cX8_field 78 = .ok (.iload_n 3, 1) := by decide +kernel
theorem dX8_field_79 : decode cX8_field 79 = .ok (.iastore, 1) := by decide +kernel
theorem dX8_field_80 : decode cX8_field 80 = .ok (.aload_n 0, 1) := by decide +kernel
theorem dX8_field_81 : decode cX8_field 81 = .ok (.getfield 50, 3) := by decide +kernel
theorem dX8_field_84 : decode cX8_field 84 = .ok (.aload_n 0, 1) := by decide +kernel
theorem dX8_field_85 : decode cX8_field 85 = .ok (.getfield 139, 3) := by decide +kernel
theorem dX8_field_88 : decode cX8_field 88 = .ok (.iload 4, 2) := by decide +kernel
theorem dX8_field_90 : decode cX8_field 90 = .ok (.iastore, 1) := by decide +kernel
theorem dX8_field_91 : decode cX8_field 91 = .ok (.aload_n 0, 1) := by decide +kernel
theorem dX8_field_92 : decode cX8_field 92 = .ok (.getfield 62, 3) := by decide +kernel
theorem dX8_field_95 : decode cX8_field 95 = .ok (.aload_n 0, 1) := by decide +kernel
theorem dX8_field_96 : decode cX8_field 96 = .ok (.getfield 139, 3) := by decide +kernel
theorem dX8_field_99 : decode cX8_field 99 = .ok (.iload 5, 2) := by decide +kernel
theorem dX8_field_101 : decode cX8_field 101 = .ok (.bastore, 1) := by decide +kernel
theorem dX8_field_102 : decode cX8_field 102 = .ok (.aload_n 0, 1) := by decide +kernel
theorem dX8_field_103 : decode cX8_field 103 = .ok (.dup, 1) := by decide +kernel
theorem dX8_field_104 : decode cX8_field 104 = .ok (.getfield 139, 3) := by decide +kernel
theorem dX8_field_107 : decode cX8_field 107 = .ok (.iconst 1, 1) := by decide +kernel
theorem dX8_field_108 : decode cX8_field 108 = .ok (.iadd, 1) := by decide +kernel
theorem dX8_field_109 : decode cX8_field 109 = .ok (.putfield 139, 3) := by decide +kernel
theorem dX8_field_112 : decode cX8_field 112 = .ok (.aload_n 0, 1) := by decide +kernel
theorem dX8_field_113 : decode cX8_field 113 = .ok (.getfield 139, 3) := by decide +kernel
theorem dX8_field_116 : decode cX8_field 116 = .ok (.iconst 1, 1) := by decide +kernel
theorem dX8_field_117 : decode cX8_field 117 = .ok (.isub, 1) := by decide +kernel
theorem dX8_field_118 : decode cX8_field 118 = .ok (.ireturn, 1) := by decide +kernel
theorem dX8_open_0 : decode cX8_open 0 = .ok (.aload_n 0, 1) := by decide +kernel
theorem dX8_open_1 : decode cX8_open 1 = .ok (.iload_n 1, 1) := by decide +kernel
theorem dX8_open_2 : decode cX8_open 2 = .ok (.invokevirtual 125, 3) := by decide +kernel
theorem dX8_open_5 : decode cX8_open 5 = .ok (.ifCond .eq 13, 3) := by decide +kernel
theorem dX8_open_8 : decode cX8_open 8 = .ok (.iload_n 2, 1) := by decide +kernel
theorem dX8_open_9 : decode cX8_open 9 = .ok (.iconst 0, 1) := by decide +kernel
theorem dX8_open_10 : decode cX8_open 10 = .ok (.bipush 20, 2) := by decide +kernel
theorem dX8_open_12 : decode cX8_open 12 = .ok (.invokestatic 121, 3) := by decide +kernel
theorem dX8_open_15 : decode cX8_open 15 = .ok (.ifCond .ne 5, 3) := by decide +kernel
theorem dX8_open_18 : decode cX8_open 18 = .ok (.iconst 0, 1) := by decide +kernel
theorem dX8_open_19 : decode cX8_open 19 = .ok (.ireturn, 1) := by decide +kernel
theorem dX8_open_20 : decode cX8_open 20 = .ok (.aload_n 0, 1) := by decide +kernel
theorem dX8_open_21 : decode cX8_open 21 = .ok (.getfield 22, 3) := by decide +kernel
theorem dX8_open_24 : decode cX8_open 24 = .ok (.iload_n 1, 1) := by decide +kernel
theorem dX8_open_25 : decode cX8_open 25 = .ok (.iload_n 2, 1) := by decide +kernel
theorem dX8_open_26 : decode cX8_open 26 = .ok (.iastore, 1) := by decide +kernel
theorem dX8_open_27 : decode cX8_open 27 = .ok (.iconst 1, 1) := by decide +kernel
theorem dX8_open_28 : decode cX8_open 28 = .ok (.ireturn, 1) := by decide +kernel
theorem dX8_mend_0 : decode cX8_mend 0 = .ok (.aload_n 0, 1) := by decide +kernel
theorem dX8_mend_1 : decode cX8_mend 1 = .ok (.iload_n 1, 1) := by decide +kernel
theorem dX8_mend_2 : decode cX8_mend 2 = .ok (.invokevirtual 125, 3) := by decide +kernel
theorem dX8_mend_5 : decode cX8_mend 5 = .ok (.ifCond .eq 14, 3) := by decide +kernel
theorem dX8_mend_8 : decode cX8_mend 8 = .ok (.iload_n 2, 1) := by decide +kernel
theorem dX8_mend_9 : decode cX8_mend 9 = .ok (.iconst 0, 1) := by decide +kernel
theorem dX8_mend_10 : decode cX8_mend 10 = .ok (.sipush 500, 3) := by decide +kernel
theorem dX8_mend_13 : decode cX8_mend 13 = .ok (.invokestatic 121, 3) := by decide +kernel
theorem dX8_mend_16 : decode cX8_mend 16 = .ok (.ifCond .ne 5, 3) := by decide +kernel
theorem dX8_mend_19 : decode cX8_mend 19 = .ok (.iconst 0, 1) := by decide +kernel
theorem dX8_mend_20 : decode cX8_mend 20 = .ok (.ireturn, 1) := by decide +kernel
theorem dX8_mend_21 : decode cX8_mend 21 = .ok (.aload_n 0, 1) := by decide +kernel
theorem dX8_mend_22 : decode cX8_mend 22 = .ok (.getfield 16, 3) := by decide +kernel
theorem dX8_mend_25 : decode cX8_mend 25 = .ok (.iload_n 1, 1) := by decide +kernel
theorem dX8_mend_26 : decode cX8_mend 26 = .ok (.iload_n 2, 1) := by decide +kernel
theorem dX8_mend_27 : decode cX8_mend 27 = .ok (.iastore, 1) := by decide +kernel
theorem dX8_mend_28 : decode cX8_mend 28 = .ok (.aload_n 0, 1) := by decide +kernel
theorem dX8_mend_29 : decode cX8_mend 29 = .ok (.getfield 37, 3) := by decide +kernel
theorem dX8_mend_32 : decode cX8_mend 32 = .ok (.iload_n 1, 1) := by decide +kernel
theorem dX8_mend_33 : decode cX8_mend 33 = .ok (.iconst 0, 1) := by decide +kernel
theorem dX8_mend_34 : decode cX8_mend 34 = .ok (.bastore, 1) := by decide +kernel
theorem dX8_mend_35 : decode cX8_mend 35 = .ok (.iconst 1, 1) := by decide +kernel
theorem dX8_mend_36 : decode cX8_mend 36 = .ok (.ireturn, 1) := by decide +kernel
theorem dX8_dredge_0 : decode cX8_dredge 0 = .ok (.aload_n 0, 1) := by decide +kernel
theorem dX8_dredge_1 : decode cX8_dredge 1 = .ok (.iload_n 1, 1) := by decide +kernel
theorem dX8_dredge_2 : decode cX8_dredge 2 = .ok (.invokevirtual 125, 3) := by decide +kernel
theorem dX8_dredge_5 : decode cX8_dredge 5 = .ok (.ifCond .eq 17, 3) := by decide +kernel
theorem dX8_dredge_8 : decode cX8_dredge 8 = .ok (.iload_n 2, 1) := by decide +kernel
theorem dX8_dredge_9 : decode cX8_dredge 9 = .ok (.iconst 1, 1) := by decide +kernel
theorem dX8_dredge_10 : decode cX8_dredge 10 = .ok (.aload_n 0, 1) := by decide +kernel
theorem dX8_dredge_11 : decode cX8_dredge 11 = .ok (.getfield 25, 3) := by decide +kernel
theorem dX8_dredge_14 : decode cX8_dredge 14 = .ok (.iload_n 1, 1) := by decide +kernel
theorem dX8_dredge_15 : decode cX8_dredge 15 = .ok (.iaload, 1) := by decide +kernel
theorem dX8_dredge_16 : decode cX8_dredge 16 = .ok (.invokestatic 121, 3) := by decide +kernel
theorem dX8_dredge_19 : decode cX8_dredge 19 = .ok (.ifCond .ne 5, 3) := by decide +kernel
theorem dX8_dredge_22 : decode cX8_dredge 22 = .ok (.iconst (-1), 1) := by decide +kernel
theorem dX8_dredge_23 : decode cX8_dredge 23 = .ok (.ireturn, 1) := by decide +kernel
theorem dX8_dredge_24 : decode cX8_dredge 24 = .ok (.aload_n 0, 1) := by decide +kernel
theorem dX8_dredge_25 : decode cX8_dredge 25 = .ok (.getfield 25, 3) := by decide +kernel
theorem dX8_dredge_28 : decode cX8_dredge 28 = .ok (.iload_n 1, 1) := by decide +kernel
theorem dX8_dredge_29 : decode cX8_dredge 29 = .ok (.dup2, 1) := by decide +kernel
theorem dX8_dredge_30 : decode cX8_dredge 30 = .ok (.iaload, 1) := by decide +kernel
theorem dX8_dredge_31 : decode cX8_dredge 31 = .ok (.iload_n 2, 1) := by decide +kernel
theorem dX8_dredge_32 : decode cX8_dredge 32 = .ok (.isub, 1) := by decide +kernel
theorem dX8_dredge_33 : decode cX8_dredge 33 = .ok (.iastore, 1) := by decide +kernel
theorem dX8_dredge_34 : decode cX8_dredge 34 = .ok (.aload_n 0, 1) := by decide +kernel
theorem dX8_dredge_35 : decode cX8_dredge 35 = .ok (.getfield 25, 3) := by decide +kernel
theorem dX8_dredge_38 : decode cX8_dredge 38 = .ok (.iload_n 1, 1) := by decide +kernel
theorem dX8_dredge_39 : decode cX8_dredge 39 = .ok (.iaload, 1) := by decide +kernel
theorem dX8_dredge_40 : decode cX8_dredge 40 = .ok (.ireturn, 1) := by decide +kernel
theorem dX8_custom_0 : decode cX8_custom 0 = .ok (.aload_n 0, 1) := by decide +kernel
theorem dX8_custom_1 : decode cX8_custom 1 = .ok (.getfield 142, 3) := by decide +kernel
theorem dX8_custom_4 : decode cX8_custom 4 = .ok (.ifCond .eq 12, 3) := by decide +kernel
theorem dX8_custom_7 : decode cX8_custom 7 = .ok (.aload_n 0, 1) := by decide +kernel
theorem dX8_custom_8 : decode cX8_custom 8 = .ok (.getfield 88, 3) := by decide +kernel
theorem dX8_custom_11 : decode cX8_custom 11 = .ok (.iload_n 1, 1) := by decide +kernel
theorem dX8_custom_12 : decode cX8_custom 12 = .ok (.iaload, 1) := by decide +kernel
theorem dX8_custom_13 : decode cX8_custom 13 = .ok (.goto 4, 3) := by decide +kernel
theorem dX8_custom_16 : decode cX8_custom 16 = .ok (.iload_n 2, 1) := by decide +kernel
theorem dX8_custom_17 : decode cX8_custom 17 = .ok (.ireturn, 1) := by decide +kernel
theorem dX8_feed_0 : decode cX8_feed 0 = .ok (.aload_n 0, 1) := by decide +kernel
theorem dX8_feed_1 : decode cX8_feed 1 = .ok (.getfield 146, 3) := by decide +kernel
theorem dX8_feed_4 : decode cX8_feed 4 = .ok (.bipush 20, 2) := by decide +kernel
theorem dX8_feed_6 : decode cX8_feed 6 = .ok (.iadd, 1) := by decide +kernel
theorem dX8_feed_7 : decode cX8_feed 7 = .ok (.sipush 300, 3) := by decide +kernel
theorem dX8_feed_10 : decode cX8_feed 10 = .ok (.if_icmp .le 5, 3) := by decide +kernel
theorem dX8_feed_13 : decode cX8_feed 13 = .ok (.iconst (-1), 1) := by decide +kernel
theorem dX8_feed_14 : decode cX8_feed 14 = .ok (.ireturn, 1) := by decide +kernel
theorem dX8_feed_15 : decode cX8_feed 15 = .ok (.aload_n 0, 1) := by decide +kernel
theorem dX8_feed_16 : decode cX8_feed 16 = .ok (.iload_n 1, 1) := by decide +kernel
theorem dX8_feed_17 : decode cX8_feed 17 = .ok (.invokevirtual 149, 3) := by decide +kernel
theorem dX8_feed_20 : decode cX8_feed 20 = .ok (.aload_n 0, 1) := by decide +kernel
theorem dX8_feed_21 : decode cX8_feed 21 = .ok (.iload_n 2, 1) := by decide +kernel
theorem dX8_feed_22 : decode cX8_feed 22 = .ok (.invokevirtual 149, 3) := by decide +kernel
theorem dX8_feed_25 : decode cX8_feed 25 = .ok (.aload_n 0, 1) := by decide +kernel
theorem dX8_feed_26 : decode cX8_feed 26 = .ok (.iload_n 3, 1) := by decide +kernel
theorem dX8_feed_27 : decode cX8_feed 27 = .ok (.invokevirtual 149, 3) := by decide +kernel
theorem dX8_feed_30 : decode cX8_feed 30 = .ok (.aload_n 0, 1) := by decide +kernel
theorem dX8_feed_31 : decode cX8_feed 31 = .ok (.iload 4, 2) := by decide +kernel
theorem dX8_feed_33 : decode cX8_feed 33 = .ok (.invokevirtual 149, 3) := by decide +kernel
theorem dX8_feed_36 : decode cX8_feed 36 = .ok (.aload_n 0, 1) := by decide +kernel
theorem dX8_feed_37 : decode cX8_feed 37 = .ok (.iload 5, 2) := by decide +kernel
theorem dX8_feed_39 : decode cX8_feed 39 = .ok (.invokevirtual 149, 3) := by decide +kernel
theorem dX8_feed_42 : decode cX8_feed 42 = .ok (.aload_n 0, 1) := by decide +kernel
theorem dX8_feed_43 : decode cX8_feed 43 = .ok (.getfield 146, 3) := by decide +kernel
theorem dX8_feed_46 : decode cX8_feed 46 = .ok (.ireturn, 1) := by decide +kernel
theorem dX8_four_0 : decode cX8_four 0 = .ok (.bipush 24, 2) := by decide +kernel
theorem dX8_four_2 : decode cX8_four 2 = .ok (.istore_n 2, 1) := by decide +kernel
theorem dX8_four_3 : decode cX8_four 3 = .ok (.iload_n 2, 1) := by decide +kernel
theorem dX8_four_4 : decode cX8_four 4 = .ok (.ifCond .lt 32, 3) := by decide +kernel
theorem dX8_four_7 : decode cX8_four 7 = .ok (.aload_n 0, 1) := by decide +kernel
theorem dX8_four_8 : decode cX8_four 8 = .ok (.getfield 78, 3) := by decide +kernel
theorem dX8_four_11 : decode cX8_four 11 = .ok (.aload_n 0, 1) := by decide +kernel
theorem dX8_four_12 : decode cX8_four 12 = .ok (.getfield 146, 3) := by decide +kernel
theorem dX8_four_15 : decode cX8_four 15 = .ok (.iload_n 1, 1) := by decide +kernel
theorem dX8_four_16 : decode cX8_four 16 = .ok (.iload_n 2, 1) := by decide +kernel
theorem dX8_four_17 : decode cX8_four 17 = .ok (.ishr, 1) := by decide +kernel
theorem dX8_four_18 : decode cX8_four 18 = .ok (.i2b, 1) := by decide +kernel
theorem dX8_four_19 : decode cX8_four 19 = .ok (.bastore, 1) := by decide +kernel
theorem dX8_four_20 : decode cX8_four 20 = .ok (.aload_n 0, 1) := by decide +kernel
theorem dX8_four_21 : decode cX8_four 21 = .ok (.dup, 1) := by decide +kernel
theorem dX8_four_22 : decode cX8_four 22 = .ok (.getfield 146, 3) := by decide +kernel
theorem dX8_four_25 : decode cX8_four 25 = .ok (.iconst 1, 1) := by decide +kernel
theorem dX8_four_26 : decode cX8_four 26 = .ok (.iadd, 1) := by decide +kernel
theorem dX8_four_27 : decode cX8_four 27 = .ok (.putfield 146, 3) := by decide +kernel
theorem dX8_four_30 : decode cX8_four 30 = .ok (.iinc 2 (-8), 3) := by decide +kernel
theorem dX8_four_33 : decode cX8_four 33 = .ok (.goto (-30), 3) := by decide +kernel
theorem dX8_four_36 : decode cX8_four 36 = .ok (.return_, 1) := by decide +kernel
theorem dX8_blanks_0 : decode cX8_blanks 0 = .ok (.aload_n 0, 1) := by decide +kernel
theorem dX8_blanks_1 : decode cX8_blanks 1 = .ok (.getfield 153, 3) := by decide +kernel
theorem dX8_blanks_4 : decode cX8_blanks 4 = .ok (.aload_n 0, 1) := by decide +kernel
theorem dX8_blanks_5 : decode cX8_blanks 5 = .ok (.getfield 156, 3) := by decide +kernel
theorem dX8_blanks_8 : decode cX8_blanks 8 = .ok (.if_icmp .ge 44, 3) := by decide +kernel
theorem dX8_blanks_11 : decode cX8_blanks 11 = .ok (.aload_n 0, 1) := by decide +kernel
theorem dX8_blanks_12 : decode cX8_blanks 12 = .ok (.getfield 82, 3) := by decide +kernel
theorem dX8_blanks_15 : decode cX8_blanks 15 = .ok (.aload_n 0, 1) := by decide +kernel
theorem dX8_blanks_16 : decode cX8_blanks 16 = .ok (.getfield 153, 3) := by decide +kernel
theorem dX8_blanks_19 : decode cX8_blanks 19 = .ok (.baload, 1) := by decide +kernel
theorem dX8_blanks_20 : decode cX8_blanks 20 = .ok (.bipush 32, 2) := by decide +kernel
theorem dX8_blanks_22 : decode cX8_blanks 22 = .ok (.if_icmp .eq 17, 3) := by decide +kernel
theorem dX8_blanks_25 : decode cX8_blanks 25 = .ok (.aload_n 0, 1) := by decide +kernel
theorem dX8_blanks_26 : decode cX8_blanks 26 = .ok (.getfield 82, 3) := by decide +kernel
theorem dX8_blanks_29 : decode cX8_blanks 29 = .ok (.aload_n 0, 1) := by decide +kernel
theorem dX8_blanks_30 : decode cX8_blanks 30 = .ok (.getfield 153, 3) := by decide +kernel
theorem dX8_blanks_33 : decode cX8_blanks 33 = .ok (.baload, 1) := by decide +kernel
theorem dX8_blanks_34 : decode cX8_blanks 34 = .ok (.bipush 10, 2) := by decide +kernel
theorem dX8_blanks_36 : decode cX8_blanks 36 = .ok (.if_icmp .ne 16, 3) := by decide +kernel
theorem dX8_blanks_39 : decode cX8_blanks 39 = .ok (.aload_n 0, 1) := by decide +kernel
theorem dX8_blanks_40 : decode cX8_blanks 40 = .ok (.dup, 1) := by decide +kernel
theorem dX8_blanks_41 : decode cX8_blanks 41 = .ok (.getfield 153, 3) := by decide +kernel
theorem dX8_blanks_44 : decode cX8_blanks 44 = .ok (.iconst 1, 1) := by decide +kernel
theorem dX8_blanks_45 : decode cX8_blanks 45 = .ok (.iadd, 1) := by decide +kernel
theorem dX8_blanks_46 : decode cX8_blanks 46 = .ok (.putfield 153, 3) := by decide +kernel
theorem dX8_blanks_49 : decode cX8_blanks 49 = .ok (.goto (-49), 3) := by decide +kernel
theorem dX8_blanks_52 : decode cX8_blanks 52 = .ok (.return_, 1) := by decide +kernel
theorem dX8_word_0 : decode cX8_word 0 = .ok (.aload_n 0, 1) := by decide +kernel
theorem dX8_word_1 : decode cX8_word 1 = .ok (.invokevirtual 159, 3) := by decide +kernel
theorem dX8_word_4 : decode cX8_word 4 = .ok (.aload_n 0, 1) := by decide +kernel
theorem dX8_word_5 : decode cX8_word 5 = .ok (.aload_n 0, 1) := by decide +kernel
theorem dX8_word_6 : decode cX8_word 6 = .ok (.getfield 153, 3) := by decide +kernel
theorem dX8_word_9 : decode cX8_word 9 = .ok (.putfield 162, 3) := by decide +kernel
theorem dX8_word_12 : decode cX8_word 12 = .ok (.lconst 0, 1) := by decide +kernel
theorem dX8_word_13 : decode cX8_word 13 = .ok (.lstore_n 1, 1) := by decide +kernel
theorem dX8_word_14 : decode cX8_word 14 = .ok (.aload_n 0, 1) := by decide +kernel
theorem dX8_word_15 : decode cX8_word 15 = .ok (.getfield 162, 3) := by decide +kernel
theorem dX8_word_18 : decode cX8_word 18 = .ok (.aload_n 0, 1) := by decide +kernel
theorem dX8_word_19 : decode cX8_word 19 = .ok (.getfield 156, 3) := by decide +kernel
theorem dX8_word_22 : decode cX8_word 22 = .ok (.if_icmp .ge 78, 3) := by decide +kernel
theorem dX8_word_25 : decode cX8_word 25 = .ok (.aload_n 0, 1) := by decide +kernel
theorem dX8_word_26 : decode cX8_word 26 = .ok (.getfield 82, 3) := by decide +kernel
theorem dX8_word_29 : decode cX8_word 29 = .ok (.aload_n 0, 1) := by decide +kernel
theorem dX8_word_30 : decode cX8_word 30 = .ok (.getfield 162, 3) := by decide +kernel
theorem dX8_word_33 : decode cX8_word 33 = .ok (.baload, 1) := by decide +kernel
theorem dX8_word_34 : decode cX8_word 34 = .ok (.bipush 97, 2) := by decide +kernel
theorem dX8_word_36 : decode cX8_word 36 = .ok (.if_icmp .lt 64, 3) := by decide +kernel
theorem dX8_word_39 : decode cX8_word 39 = .ok (.aload_n 0, 1) := by decide +kernel
theorem dX8_word_40 : decode cX8_word 40 = .ok (.getfield 82, 3) := by decide +kernel
theorem dX8_word_43 : decode cX8_word 43 = .ok (.aload_n 0, 1) := by decide +kernel
theorem dX8_word_44 : decode cX8_word 44 = .ok (.getfield 162, 3) := by decide +kernel
theorem dX8_word_47 : decode cX8_word 47 = .ok (.baload, 1) := by decide +kernel
theorem dX8_word_48 : decode cX8_word 48 = .ok (.bipush 122, 2) := by decide +kernel
theorem dX8_word_50 : decode cX8_word 50 = .ok (.if_icmp .gt 50, 3) := by decide +kernel
theorem dX8_word_53 : decode cX8_word 53 = .ok (.aload_n 0, 1) := by decide +kernel
theorem dX8_word_54 : decode cX8_word 54 = .ok (.getfield 162, 3) := by decide +kernel
theorem dX8_word_57 : decode cX8_word 57 = .ok (.aload_n 0, 1) := by decide +kernel
theorem dX8_word_58 : decode cX8_word 58 = .ok (.getfield 153, 3) := by decide +kernel
theorem dX8_word_61 : decode cX8_word 61 = .ok (.isub, 1) := by decide +kernel
theorem dX8_word_62 : decode cX8_word 62 = .ok (.bipush 7, 2) := by decide +kernel
theorem dX8_word_64 : decode cX8_word 64 = .ok (.if_icmp .ge 21, 3) := by decide +kernel
theorem dX8_word_67 : decode cX8_word 67 = .ok (.lload_n 1, 1) := by decide +kernel
theorem dX8_word_68 : decode cX8_word 68 = .ok (.bipush 8, 2) := by decide +kernel
theorem dX8_word_70 : decode cX8_word 70 = .ok (.lshl, 1) := by decide +kernel
theorem dX8_word_71 : decode cX8_word 71 = .ok (.aload_n 0, 1) := by decide +kernel
theorem dX8_word_72 : decode cX8_word 72 = .ok (.getfield 82, 3) := by decide +kernel
theorem dX8_word_75 : decode cX8_word 75 = .ok (.aload_n 0, 1) := by decide +kernel
theorem dX8_word_76 : decode cX8_word 76 = .ok (.getfield 162, 3) := by decide +kernel
theorem dX8_word_79 : decode cX8_word 79 = .ok (.baload, 1) := by decide +kernel
theorem dX8_word_80 : decode cX8_word 80 = .ok (.i2l, 1) := by decide +kernel
theorem dX8_word_81 : decode cX8_word 81 = .ok (.lor, 1) := by decide +kernel
theorem dX8_word_82 : decode cX8_word 82 = .ok (.goto 4, 3) := by decide +kernel
theorem dX8_word_85 : decode cX8_word 85 = .ok (.lconst 0, 1) := by decide +kernel
theorem dX8_word_86 : decode cX8_word 86 = .ok (.lstore_n 1, 1) := by decide +kernel
theorem dX8_word_87 : decode cX8_word 87 = .ok (.aload_n 0, 1) := by decide +kernel
theorem dX8_word_88 : decode cX8_word 88 = .ok (.dup, 1) := by decide +kernel
theorem dX8_word_89 : decode cX8_word 89 = .ok (.getfield 162, 3) := by decide +kernel
theorem dX8_word_92 : decode cX8_word 92 = .ok (.iconst 1, 1) := by decide +kernel
theorem dX8_word_93 : decode cX8_word 93 = .ok (.iadd, 1) := by decide +kernel
theorem dX8_word_94 : decode cX8_word 94 = .ok (.putfield 162, 3) := by decide +kernel
theorem dX8_word_97 : decode cX8_word 97 = .ok (.goto (-83), 3) := by decide +kernel
theorem dX8_word_100 : decode cX8_word 100 = .ok (.aload_n 0, 1) := by decide +kernel
theorem dX8_word_101 : decode cX8_word 101 = .ok (.getfield 162, 3) := by decide +kernel
theorem dX8_word_104 : decode cX8_word 104 = .ok (.aload_n 0, 1) := by decide +kernel
theorem dX8_word_105 : decode cX8_word 105 = .ok (.getfield 153, 3) := by decide +kernel
theorem dX8_word_108 : decode cX8_word 108 = .ok (.isub, 1) := by decide +kernel
theorem dX8_word_109 : decode cX8_word 109 = .ok (.bipush 7, 2) := by decide +kernel
theorem dX8_word_111 : decode cX8_word 111 = .ok (.if_icmp .le 7, 3) := by decide +kernel
theorem dX8_word_114 : decode cX8_word 114 = .ok (.lconst 0, 1) := by decide +kernel
theorem dX8_word_115 : decode cX8_word 115 = .ok (.goto 4, 3) := by decide +kernel
theorem dX8_word_118 : decode cX8_word 118 = .ok (.lload_n 1, 1) := by decide +kernel
theorem dX8_word_119 : decode cX8_word 119 = .ok (.lreturn, 1) := by decide +kernel
theorem dX8_takes_0 : decode cX8_takes 0 = .ok (.aload_n 0, 1) := by decide +kernel
theorem dX8_takes_1 : decode cX8_takes 1 = .ok (.invokevirtual 165, 3) := by decide +kernel
theorem dX8_takes_4 : decode cX8_takes 4 = .ok (.lload_n 1, 1) := by decide +kernel
theorem dX8_takes_5 : decode cX8_takes 5 = .ok (.lcmp, 1) := by decide +kernel
theorem dX8_takes_6 : decode cX8_takes 6 = .ok (.ifCond .eq 5, 3) := by decide +kernel
theorem dX8_takes_9 : decode cX8_takes 9 = .ok (.iconst 0, 1) := by decide +kernel
theorem dX8_takes_10 : decode cX8_takes 10 = .ok (.ireturn, 1) := by decide +kernel
theorem dX8_takes_11 : decode cX8_takes 11 = .ok (.aload_n 0, 1) := by decide +kernel
theorem dX8_takes_12 : decode cX8_takes 12 = .ok (.aload_n 0, 1) := by decide +kernel
theorem dX8_takes_13 : decode cX8_takes 13 = .ok (.getfield 162, 3) := by decide +kernel
theorem dX8_takes_16 : decode cX8_takes 16 = .ok (.putfield 153, 3) := by decide +kernel
theorem dX8_takes_19 : decode cX8_takes 19 = .ok (.iconst 1, 1) := by decide +kernel
theorem dX8_takes_20 : decode cX8_takes 20 = .ok (.ireturn, 1) := by decide +kernel
theorem dX8_takesNumber_0 : decode cX8_takesNumber 0 = .ok (.aload_n 0, 1) := by decide +kernel
theorem dX8_takesNumber_1 : decode cX8_takesNumber 1 = .ok (.invokevirtual 159, 3) := by decide +kernel
theorem dX8_takesNumber_4 : decode cX8_takesNumber 4 = .ok (.aload_n 0, 1) := by decide +kernel
theorem dX8_takesNumber_5 : decode cX8_takesNumber 5 = .ok (.getfield 153, 3) := by decide +kernel
theorem dX8_takesNumber_8 : decode cX8_takesNumber 8 = .ok (.istore_n 1, 1) := by decide +kernel
theorem dX8_takesNumber_9 : decode cX8_takesNumber 9 = .ok (.aload_n 0, 1) := by decide +kernel
theorem dX8_takesNumber_10 : decode cX8_takesNumber 10 = .ok (.iconst 0, 1) := by decide +kernel
theorem dX8_takesNumber_11 : decode cX8_takesNumber 11 = .ok (.putfield 169, 3) := by decide +kernel
theorem dX8_takesNumber_14 : decode cX8_takesNumber 14 = .ok (.iload_n 1, 1) := by decide +kernel
theorem dX8_takesNumber_15 : decode cX8_takesNumber 15 = .ok (.aload_n 0, 1) := by decide +kernel
theorem dX8_takesNumber_16 : decode cX8_takesNumber 16 = .ok (.getfield 156, 3) := by decide +kernel
theorem dX8_takesNumber_19 : decode cX8_takesNumber 19 = .ok (.if_icmp .ge 62, 3) := by decide +kernel
theorem dX8_takesNumber_22 : decode cX8_takesNumber 22 = .ok (.aload_n 0, 1) := by decide +kernel
theorem dX8_takesNumber_23 : decode cX8_takesNumber 23 = .ok (.getfield 82, 3) := by decide +kernel
theorem dX8_takesNumber_26 : decode cX8_takesNumber 26 = .ok (.iload_n 1, 1) := by decide +kernel
theorem dX8_takesNumber_27 : decode cX8_takesNumber 27 = .ok (.baload, 1) := by decide +kernel
theorem dX8_takesNumber_28 : decode cX8_takesNumber 28 = .ok (.bipush 48, 2) := by decide +kernel
theorem dX8_takesNumber_30 : decode cX8_takesNumber 30 = .ok (.if_icmp .lt 51, 3) := by decide +kernel
theorem dX8_takesNumber_33 : decode cX8_takesNumber 33 = .ok (.aload_n 0, 1) := by decide +kernel
theorem dX8_takesNumber_34 : decode cX8_takesNumber 34 = .ok (.getfield 82, 3) := by decide +kernel
theorem dX8_takesNumber_37 : decode cX8_takesNumber 37 = .ok (.iload_n 1, 1) := by decide +kernel
theorem dX8_takesNumber_38 : decode cX8_takesNumber 38 = .ok (.baload, 1) := by decide +kernel
theorem dX8_takesNumber_39 : decode cX8_takesNumber 39 = .ok (.bipush 57, 2) := by decide +kernel
theorem dX8_takesNumber_41 : decode cX8_takesNumber 41 = .ok (.if_icmp .gt 40, 3) := by decide +kernel
theorem dX8_takesNumber_44 : decode cX8_takesNumber 44 = .ok (.iload_n 1, 1) := by decide +kernel
theorem dX8_takesNumber_45 : decode cX8_takesNumber 45 = .ok (.aload_n 0, 1) := by decide +kernel
theorem dX8_takesNumber_46 : decode cX8_takesNumber 46 = .ok (.getfield 153, 3) := by decide +kernel
theorem dX8_takesNumber_49 : decode cX8_takesNumber 49 = .ok (.isub, 1) := by decide +kernel
theorem dX8_takesNumber_50 : decode cX8_takesNumber 50 = .ok (.iconst 3, 1) := by decide +kernel
theorem dX8_takesNumber_51 : decode cX8_takesNumber 51 = .ok (.if_icmp .ge 24, 3) := by decide +kernel
theorem dX8_takesNumber_54 : decode cX8_takesNumber 54 = .ok (.aload_n 0, 1) := by decide +kernel
theorem dX8_takesNumber_55 : decode cX8_takesNumber 55 = .ok (.bipush 10, 2) := by decide +kernel
theorem dX8_takesNumber_57 : decode cX8_takesNumber 57 = .ok (.aload_n 0, 1) := by decide +kernel
theorem dX8_takesNumber_58 : decode cX8_takesNumber 58 = .ok (.getfield 169, 3) := by decide +kernel
theorem dX8_takesNumber_61 : decode cX8_takesNumber 61 = .ok (.imul, 1) := by decide +kernel
theorem dX8_takesNumber_62 : decode cX8_takesNumber 62 = .ok (.aload_n 0, 1) := by decide +kernel
theorem dX8_takesNumber_63 : decode cX8_takesNumber 63 = .ok (.getfield 82, 3) := by decide +kernel
theorem dX8_takesNumber_66 : decode cX8_takesNumber 66 = .ok (.iload_n 1, 1) := by decide +kernel
theorem dX8_takesNumber_67 : decode cX8_takesNumber 67 = .ok (.baload, 1) := by decide +kernel
theorem dX8_takesNumber_68 : decode cX8_takesNumber 68 = .ok (.iadd, 1) := by decide +kernel
theorem dX8_takesNumber_69 : decode cX8_takesNumber 69 = .ok (.bipush 48, 2) := by decide +kernel
theorem dX8_takesNumber_71 : decode cX8_takesNumber 71 = .ok (.isub, 1) := by decide +kernel
theorem dX8_takesNumber_72 : decode cX8_takesNumber 72 = .ok (.putfield 169, 3) := by decide +kernel
theorem dX8_takesNumber_75 : decode cX8_takesNumber 75 = .ok (.iinc 1 1, 3) := by decide +kernel
theorem dX8_takesNumber_78 : decode cX8_takesNumber 78 = .ok (.goto (-64), 3) := by decide +kernel
theorem dX8_takesNumber_81 : decode cX8_takesNumber 81 = .ok (.iload_n 1, 1) := by decide +kernel
theorem dX8_takesNumber_82 : decode cX8_takesNumber 82 = .ok (.aload_n 0, 1) := by decide +kernel
theorem dX8_takesNumber_83 : decode cX8_takesNumber 83 = .ok (.getfield 153, 3) := by decide +kernel
theorem dX8_takesNumber_86 : decode cX8_takesNumber 86 = .ok (.if_icmp .eq 13, 3) := by decide +kernel
theorem dX8_takesNumber_89 : decode cX8_takesNumber 89 = .ok (.iload_n 1, 1) := by decide +kernel
theorem dX8_takesNumber_90 : decode cX8_takesNumber 90 = .ok (.aload_n 0, 1) := by decide +kernel
theorem dX8_takesNumber_91 : decode cX8_takesNumber 91 = .ok (.getfield 153, 3) := by decide +kernel
theorem dX8_takesNumber_94 : decode cX8_takesNumber 94 = .ok (.isub, 1) := by decide +kernel
theorem dX8_takesNumber_95 : decode cX8_takesNumber 95 = .ok (.iconst 3, 1) := by decide +kernel
theorem dX8_takesNumber_96 : decode cX8_takesNumber 96 = .ok (.if_icmp .le 5, 3) := by decide +kernel
theorem dX8_takesNumber_99 : decode cX8_takesNumber 99 = .ok (.iconst 0, 1) := by decide +kernel
theorem dX8_takesNumber_100 : decode cX8_takesNumber 100 = .ok (.ireturn, 1) := by decide +kernel
theorem dX8_takesNumber_101 : decode cX8_takesNumber 101 = .ok (.aload_n 0, 1) := by decide +kernel
theorem dX8_takesNumber_102 : decode cX8_takesNumber 102 = .ok (.iload_n 1, 1) := by decide +kernel
theorem dX8_takesNumber_103 : decode cX8_takesNumber 103 = .ok (.putfield 153, 3) := by decide +kernel
theorem dX8_takesNumber_106 : decode cX8_takesNumber 106 = .ok (.iconst 1, 1) := by decide +kernel
theorem dX8_takesNumber_107 : decode cX8_takesNumber 107 = .ok (.ireturn, 1) := by decide +kernel
theorem dX8_statement_0 : decode cX8_statement 0 = .ok (.aload_n 0, 1) := by decide +kernel
theorem dX8_statement_1 : decode cX8_statement 1 = .ok (.ldc2_w 172, 3) := by decide +kernel
theorem dX8_statement_4 : decode cX8_statement 4 = .ok (.invokevirtual 174, 3) := by decide +kernel
theorem dX8_statement_7 : decode cX8_statement 7 = .ok (.ifCond .eq 84, 3) := by decide +kernel
theorem dX8_statement_10 : decode cX8_statement 10 = .ok (.aload_n 0, 1) := by decide +kernel
theorem dX8_statement_11 : decode cX8_statement 11 = .ok (.ldc2_w 178, 3) := by decide +kernel
theorem dX8_statement_14 : decode cX8_statement 14 = .ok (.invokevirtual 174, 3) := by decide +kernel
theorem dX8_statement_17 : decode cX8_statement 17 = .ok (.ifCond .eq 7, 3) := by decide +kernel
theorem dX8_statement_20 : decode cX8_statement 20 = .ok (.iconst 0, 1) := by decide +kernel
theorem dX8_statement_21 : decode cX8_statement 21 = .ok (.goto 32, 3) := by decide +kernel
theorem dX8_statement_24 : decode cX8_statement 24 = .ok (.aload_n 0, 1) := by decide +kernel
theorem dX8_statement_25 : decode cX8_statement 25 = .ok (.ldc2_w 180, 3) := by decide +kernel
theorem dX8_statement_28 : decode cX8_statement 28 = .ok (.invokevirtual 174, 3) := by decide +kernel
theorem dX8_statement_31 : decode cX8_statement 31 = .ok (.ifCond .eq 7, 3) := by decide +kernel
theorem dX8_statement_34 : decode cX8_statement 34 = .ok (.iconst 1, 1) := by decide +kernel
theorem dX8_statement_35 : decode cX8_statement 35 = .ok (.goto 18, 3) := by decide +kernel
theorem dX8_statement_38 : decode cX8_statement 38 = .ok (.aload_n 0, 1) := by decide +kernel
theorem dX8_statement_39 : decode cX8_statement 39 = .ok (.ldc2_w 182, 3) := by decide +kernel
theorem dX8_statement_42 : decode cX8_statement 42 = .ok (.invokevirtual 174, 3) := by decide +kernel
theorem dX8_statement_45 : decode cX8_statement 45 = .ok (.ifCond .eq 7, 3) := by decide +kernel
theorem dX8_statement_48 : decode cX8_statement 48 = .ok (.iconst 2, 1) := by decide +kernel
theorem dX8_statement_49 : decode cX8_statement 49 = .ok (.goto 4, 3) := by decide +kernel
theorem dX8_statement_52 : decode cX8_statement 52 = .ok (.iconst (-1), 1) := by decide +kernel
theorem dX8_statement_53 : decode cX8_statement 53 = .ok (.istore_n 1, 1) := by decide +kernel
theorem dX8_statement_54 : decode cX8_statement 54 = .ok (.iload_n 1, 1) := by decide +kernel
theorem dX8_statement_55 : decode cX8_statement 55 = .ok (.iconst (-1), 1) := by decide +kernel
theorem dX8_statement_56 : decode cX8_statement 56 = .ok (.if_icmp .ne 5, 3) := by decide +kernel
theorem dX8_statement_59 : decode cX8_statement 59 = .ok (.iconst 0, 1) := by decide +kernel
theorem dX8_statement_60 : decode cX8_statement 60 = .ok (.ireturn, 1) := by decide +kernel
theorem dX8_statement_61 : decode cX8_statement 61 = .ok (.aload_n 0, 1) := by decide +kernel
theorem dX8_statement_62 : decode cX8_statement 62 = .ok (.getfield 88, 3) := by decide +kernel
theorem dX8_statement_65 : decode cX8_statement 65 = .ok (.bipush 15, 2) := by decide +kernel
theorem dX8_statement_67 : decode cX8_statement 67 = .ok (.aload_n 0, 1) := by decide +kernel
theorem dX8_statement_68 : decode cX8_statement 68 = .ok (.getfield 88, 3) := by decide +kernel
theorem dX8_statement_71 : decode cX8_statement 71 = .ok (.bipush 14, 2) := by decide +kernel
theorem dX8_statement_73 : decode cX8_statement 73 = .ok (.iaload, 1) := by decide +kernel
theorem dX8_statement_74 : decode cX8_statement 74 = .ok (.iadd, 1) := by decide +kernel
theorem dX8_statement_75 : decode cX8_statement 75 = .ok (.iload_n 1, 1) := by decide +kernel
theorem dX8_statement_76 : decode cX8_statement 76 = .ok (.iastore, 1) := by decide +kernel
theorem dX8_statement_77 : decode cX8_statement 77 = .ok (.aload_n 0, 1) := by decide +kernel
theorem dX8_statement_78 : decode cX8_statement 78 = .ok (.getfield 88, 3) := by decide +kernel
theorem dX8_statement_81 : decode cX8_statement 81 = .ok (.bipush 14, 2) := by decide +kernel
theorem dX8_statement_83 : decode cX8_statement 83 = .ok (.dup2, 1) := by decide +kernel
theorem dX8_statement_84 : decode cX8_statement 84 = .ok (.iaload, 1) := by decide +kernel
theorem dX8_statement_85 : decode cX8_statement 85 = .ok (.iconst 1, 1) := by decide +kernel
theorem dX8_statement_86 : decode cX8_statement 86 = .ok (.iadd, 1) := by decide +kernel
theorem dX8_statement_87 : decode cX8_statement 87 = .ok (.iastore, 1) := by decide +kernel
theorem dX8_statement_88 : decode cX8_statement 88 = .ok (.goto 89, 3) := by decide +kernel
theorem dX8_statement_91 : decode cX8_statement 91 = .ok (.aload_n 0, 1) := by decide +kernel
theorem dX8_statement_92 : decode cX8_statement 92 = .ok (.ldc2_w 182, 3) := by decide +kernel
theorem dX8_statement_95 : decode cX8_statement 95 = .ok (.invokevirtual 174, 3) := by decide +kernel
theorem dX8_statement_98 : decode cX8_statement 98 = .ok (.ifCond .eq 26, 3) := by decide +kernel
theorem dX8_statement_101 : decode cX8_statement 101 = .ok (.aload_n 0, 1) := by decide +kernel
theorem dX8_statement_102 : decode cX8_statement 102 = .ok (.invokevirtual 184, 3) := by decide +kernel
theorem dX8_statement_105 : decode cX8_statement 105 = .ok (.ifCond .ne 5, 3) := by decide +kernel
theorem dX8_statement_108 : decode cX8_statement 108 = .ok (.iconst 0, 1) := by decide +kernel
theorem dX8_statement_109 : decode cX8_statement 109 = .ok (.ireturn, 1) := by decide +kernel
theorem dX8_statement_110 : decode cX8_statement 110 = .ok (.aload_n 0, 1) := by decide +kernel
theorem dX8_statement_111 : decode cX8_statement 111 = .ok (.getfield 88, 3) := by decide +kernel
theorem dX8_statement_114 : decode cX8_statement 114 = .ok (.bipush 25, 2) := by decide +kernel
theorem dX8_statement_116 : decode cX8_statement 116 = .ok (.aload_n 0, 1) := by decide +kernel
theorem dX8_statement_117 : decode cX8_statement 117 = .ok (.getfield 169, 3) := by decide +kernel
theorem dX8_statement_120 : decode cX8_statement 120 = .ok (.iastore, 1) := by decide +kernel
theorem dX8_statement_121 : decode cX8_statement 121 = .ok (.goto 56, 3) := by decide +kernel
theorem dX8_statement_124 : decode cX8_statement 124 = .ok (.aload_n 0, 1) := by decide +kernel
theorem dX8_statement_125 : decode cX8_statement 125 = .ok (.ldc2_w 188, 3) := by decide +kernel
theorem dX8_statement_128 : decode cX8_statement 128 = .ok (.invokevirtual 174, 3) := by decide +kernel
theorem dX8_statement_131 : decode cX8_statement 131 = .ok (.ifCond .eq 26, 3) := by decide +kernel
theorem dX8_statement_134 : decode cX8_statement 134 = .ok (.aload_n 0, 1) := by decide +kernel
theorem dX8_statement_135 : decode cX8_statement 135 = .ok (.invokevirtual 184, 3) := by decide +kernel
theorem dX8_statement_138 : decode cX8_statement 138 = .ok (.ifCond .ne 5, 3) := by decide +kernel
theorem dX8_statement_141 : decode cX8_statement 141 = .ok (.iconst 0, 1) := by decide +kernel
theorem dX8_statement_142 : decode cX8_statement 142 = .ok (.ireturn, 1) := by decide +kernel
theorem dX8_statement_143 : decode cX8_statement 143 = .ok (.aload_n 0, 1) := by decide +kernel
theorem dX8_statement_144 : decode cX8_statement 144 = .ok (.getfield 88, 3) := by decide +kernel
theorem dX8_statement_147 : decode cX8_statement 147 = .ok (.bipush 26, 2) := by decide +kernel
theorem dX8_statement_149 : decode cX8_statement 149 = .ok (.aload_n 0, 1) := by decide +kernel
theorem dX8_statement_150 : decode cX8_statement 150 = .ok (.getfield 169, 3) := by decide +kernel
theorem dX8_statement_153 : decode cX8_statement 153 = .ok (.iastore, 1) := by decide +kernel
theorem dX8_statement_154 : decode cX8_statement 154 = .ok (.goto 23, 3) := by decide +kernel
theorem dX8_statement_157 : decode cX8_statement 157 = .ok (.aload_n 0, 1) := by decide +kernel
theorem dX8_statement_158 : decode cX8_statement 158 = .ok (.ldc2_w 190, 3) := by decide +kernel
theorem dX8_statement_161 : decode cX8_statement 161 = .ok (.invokevirtual 174, 3) := by decide +kernel
theorem dX8_statement_164 : decode cX8_statement 164 = .ok (.ifCond .ne 5, 3) := by decide +kernel
theorem dX8_statement_167 : decode cX8_statement 167 = .ok (.iconst 0, 1) := by decide +kernel
theorem dX8_statement_168 : decode cX8_statement 168 = .ok (.ireturn, 1) := by decide +kernel
theorem dX8_statement_169 : decode cX8_statement 169 = .ok (.aload_n 0, 1) := by decide +kernel
theorem dX8_statement_170 : decode cX8_statement 170 = .ok (.getfield 88, 3) := by decide +kernel
theorem dX8_statement_173 : decode cX8_statement 173 = .ok (.bipush 27, 2) := by decide +kernel
theorem dX8_statement_175 : decode cX8_statement 175 = .ok (.iconst 1, 1) := by decide +kernel
theorem dX8_statement_176 : decode cX8_statement 176 = .ok (.iastore, 1) := by decide +kernel
theorem dX8_statement_177 : decode cX8_statement 177 = .ok (.aload_n 0, 1) := by decide +kernel
theorem dX8_statement_178 : decode cX8_statement 178 = .ok (.invokevirtual 159, 3) := by decide +kernel
theorem dX8_statement_181 : decode cX8_statement 181 = .ok (.aload_n 0, 1) := by decide +kernel
theorem dX8_statement_182 : decode cX8_statement 182 = .ok (.getfield 153, 3) := by decide +kernel
theorem dX8_statement_185 : decode cX8_statement 185 = .ok (.aload_n 0, 1) := by decide +kernel
theorem dX8_statement_186 : decode cX8_statement 186 = .ok (.getfield 156, 3) := by decide +kernel
theorem dX8_statement_189 : decode cX8_statement 189 = .ok (.if_icmp .eq 17, 3) := by decide +kernel
theorem dX8_statement_192 : decode cX8_statement 192 = .ok (.aload_n 0, 1) := by decide +kernel
theorem dX8_statement_193 : decode cX8_statement 193 = .ok (.getfield 82, 3) := by decide +kernel
theorem dX8_statement_196 : decode cX8_statement 196 = .ok (.aload_n 0, 1) := by decide +kernel
theorem dX8_statement_197 : decode cX8_statement 197 = .ok (.getfield 153, 3) := by decide +kernel
theorem dX8_statement_200 : decode cX8_statement 200 = .ok (.baload, 1) := by decide +kernel
theorem dX8_statement_201 : decode cX8_statement 201 = .ok (.bipush 59, 2) := by decide +kernel
theorem dX8_statement_203 : decode cX8_statement 203 = .ok (.if_icmp .eq 5, 3) := by decide +kernel
theorem dX8_statement_206 : decode cX8_statement 206 = .ok (.iconst 0, 1) := by decide +kernel
theorem dX8_statement_207 : decode cX8_statement 207 = .ok (.ireturn, 1) := by decide +kernel
theorem dX8_statement_208 : decode cX8_statement 208 = .ok (.aload_n 0, 1) := by decide +kernel
theorem dX8_statement_209 : decode cX8_statement 209 = .ok (.dup, 1) := by decide +kernel
theorem dX8_statement_210 : decode cX8_statement 210 = .ok (.getfield 153, 3) := by decide +kernel
theorem dX8_statement_213 : decode cX8_statement 213 = .ok (.iconst 1, 1) := by decide +kernel
theorem dX8_statement_214 : decode cX8_statement 214 = .ok (.iadd, 1) := by decide +kernel
theorem dX8_statement_215 : decode cX8_statement 215 = .ok (.putfield 153, 3) := by decide +kernel
theorem dX8_statement_218 : decode cX8_statement 218 = .ok (.iconst 1, 1) := by decide +kernel
theorem dX8_statement_219 : decode cX8_statement 219 = .ok (.ireturn, 1) := by decide +kernel
theorem dX8_custom__0 : decode cX8_custom_ 0 = .ok (.iload_n 1, 1) := by decide +kernel
theorem dX8_custom__1 : decode cX8_custom_ 1 = .ok (.iconst 0, 1) := by decide +kernel
theorem dX8_custom__2 : decode cX8_custom_ 2 = .ok (.aload_n 0, 1) := by decide +kernel
theorem dX8_custom__3 : decode cX8_custom_ 3 = .ok (.getfield 146, 3) := by decide +kernel
theorem dX8_custom__6 : decode cX8_custom_ 6 = .ok (.invokestatic 121, 3) := by decide +kernel
theorem dX8_custom__9 : decode cX8_custom_ 9 = .ok (.ifCond .ne 6, 3) := by decide +kernel
theorem dX8_custom__12 : decode cX8_custom_ 12 = .ok (.bipush (-2), 2) := by decide +kernel
theorem dX8_custom__14 : decode cX8_custom_ 14 = .ok (.ireturn, 1) := by decide +kernel
theorem dX8_custom__15 : decode cX8_custom_ 15 = .ok (.iconst 0, 1) := by decide +kernel
theorem dX8_custom__16 : decode cX8_custom_ 16 = .ok (.istore_n 2, 1) := by decide +kernel
theorem dX8_custom__17 : decode cX8_custom_ 17 = .ok (.iload_n 2, 1) := by decide +kernel
theorem dX8_custom__18 : decode cX8_custom_ 18 = .ok (.iload_n 1, 1) := by decide +kernel
theorem dX8_custom__19 : decode cX8_custom_ 19 = .ok (.if_icmp .ge 21, 3) := by decide +kernel
theorem dX8_custom__22 : decode cX8_custom_ 22 = .ok (.aload_n 0, 1) := by decide +kernel
theorem dX8_custom__23 : decode cX8_custom_ 23 = .ok (.getfield 82, 3) := by decide +kernel
theorem dX8_custom__26 : decode cX8_custom_ 26 = .ok (.iload_n 2, 1) := by decide +kernel
theorem dX8_custom__27 : decode cX8_custom_ 27 = .ok (.aload_n 0, 1) := by decide +kernel
theorem dX8_custom__28 : decode cX8_custom_ 28 = .ok (.getfield 78, 3) := by decide +kernel
theorem dX8_custom__31 : decode cX8_custom_ 31 = .ok (.iload_n 2, 1) := by decide +kernel
theorem dX8_custom__32 : decode cX8_custom_ 32 = .ok (.baload, 1) := by decide +kernel
theorem dX8_custom__33 : decode cX8_custom_ 33 = .ok (.bastore, 1) := by decide +kernel
theorem dX8_custom__34 : decode cX8_custom_ 34 = .ok (.iinc 2 1, 3) := by decide +kernel
theorem dX8_custom__37 : decode cX8_custom_ 37 = .ok (.goto (-20), 3) := by decide +kernel
theorem dX8_custom__40 : decode cX8_custom_ 40 = .ok (.aload_n 0, 1) := by decide +kernel
theorem dX8_custom__41 : decode cX8_custom_ 41 = .ok (.iload_n 1, 1) := by decide +kernel
theorem dX8_custom__42 : decode cX8_custom_ 42 = .ok (.putfield 156, 3) := by decide +kernel
theorem dX8_custom__45 : decode cX8_custom_ 45 = .ok (.aload_n 0, 1) := by decide +kernel
theorem dX8_custom__46 : decode cX8_custom_ 46 = .ok (.iconst 0, 1) := by decide +kernel
theorem dX8_custom__47 : decode cX8_custom_ 47 = .ok (.putfield 146, 3) := by decide +kernel
theorem dX8_custom__50 : decode cX8_custom_ 50 = .ok (.aload_n 0, 1) := by decide +kernel
theorem dX8_custom__51 : decode cX8_custom_ 51 = .ok (.iconst 0, 1) := by decide +kernel
theorem dX8_custom__52 : decode cX8_custom_ 52 = .ok (.putfield 153, 3) := by decide +kernel
theorem dX8_custom__55 : decode cX8_custom_ 55 = .ok (.iconst 0, 1) := by decide +kernel
theorem dX8_custom__56 : decode cX8_custom_ 56 = .ok (.istore_n 2, 1) := by decide +kernel
theorem dX8_custom__57 : decode cX8_custom_ 57 = .ok (.iload_n 2, 1) := by decide +kernel
theorem dX8_custom__58 : decode cX8_custom_ 58 = .ok (.bipush 14, 2) := by decide +kernel
theorem dX8_custom__60 : decode cX8_custom_ 60 = .ok (.if_icmp .ge 30, 3) := by decide +kernel
theorem dX8_custom__63 : decode cX8_custom_ 63 = .ok (.aload_n 0, 1) := by decide +kernel
theorem dX8_custom__64 : decode cX8_custom_ 64 = .ok (.getfield 88, 3) := by decide +kernel
theorem dX8_custom__67 : decode cX8_custom_ 67 = .ok (.bipush 14, 2) := by decide +kernel
theorem dX8_custom__69 : decode cX8_custom_ 69 = .ok (.iload_n 2, 1) := by decide +kernel
theorem dX8_custom__70 : decode cX8_custom_ 70 = .ok (.iadd, 1) := by decide +kernel
theorem dX8_custom__71 : decode cX8_custom_ 71 = .ok (.iload_n 2, 1) := by decide +kernel
theorem dX8_custom__72 : decode cX8_custom_ 72 = .ok (.bipush 11, 2) := by decide +kernel
theorem dX8_custom__74 : decode cX8_custom_ 74 = .ok (.if_icmp .ne 8, 3) := by decide +kernel
theorem dX8_custom__77 : decode cX8_custom_ 77 = .ok (.bipush 9, 2) := by decide +kernel
theorem dX8_custom__79 : decode cX8_custom_ 79 = .ok (.goto 4, 3) := by decide +kernel
theorem dX8_custom__82 : decode cX8_custom_ 82 = .ok (.iconst 0, 1) := by decide +kernel
theorem dX8_custom__83 : decode cX8_custom_ 83 = .ok (.iastore, 1) := by decide +kernel
theorem dX8_custom__84 : decode cX8_custom_ 84 = .ok (.iinc 2 1, 3) := by decide +kernel
theorem dX8_custom__87 : decode cX8_custom_ 87 = .ok (.goto (-30), 3) := by decide +kernel
theorem dX8_custom__90 : decode cX8_custom_ 90 = .ok (.iconst 0, 1) := by decide +kernel
theorem dX8_custom__91 : decode cX8_custom_ 91 = .ok (.istore_n 2, 1) := by decide +kernel
theorem dX8_custom__92 : decode cX8_custom_ 92 = .ok (.iconst 1, 1) := by decide +kernel
theorem dX8_custom__93 : decode cX8_custom_ 93 = .ok (.istore_n 3, 1) := by decide +kernel
theorem dX8_custom__94 : decode cX8_custom_ 94 = .ok (.aload_n 0, 1) := by decide +kernel
theorem dX8_custom__95 : decode cX8_custom_ 95 = .ok (.invokevirtual 159, 3) := by decide +kernel
theorem dX8_custom__98 : decode cX8_custom_ 98 = .ok (.iload_n 3, 1) := by decide +kernel
theorem dX8_custom__99 : decode cX8_custom_ 99 = .ok (.ifCond .eq 47, 3) := by decide +kernel
theorem dX8_custom__102 : decode cX8_custom_ 102 = .ok (.aload_n 0, 1) := by decide +kernel
theorem dX8_custom__103 : decode cX8_custom_ 103 = .ok (.getfield 153, 3) := by decide +kernel
theorem dX8_custom__106 : decode cX8_custom_ 106 = .ok (.aload_n 0, 1) := by decide +kernel
theorem dX8_custom__107 : decode cX8_custom_ 107 = .ok (.getfield 156, 3) := by decide +kernel
theorem dX8_custom__110 : decode cX8_custom_ 110 = .ok (.if_icmp .ge 36, 3) := by decide +kernel
theorem dX8_custom__113 : decode cX8_custom_ 113 = .ok (.iload_n 2, 1) := by decide +kernel
theorem dX8_custom__114 : decode cX8_custom_ 114 = .ok (.bipush 10, 2) := by decide +kernel
theorem dX8_custom__116 : decode cX8_custom_ 116 = .ok (.if_icmp .ge 14, 3) := by decide +kernel
theorem dX8_custom__119 : decode cX8_custom_ 119 = .ok (.aload_n 0, 1) := by decide +kernel
theorem dX8_custom__120 : decode cX8_custom_ 120 = .ok (.invokevirtual 192, 3) := by decide +kernel
theorem dX8_custom__123 : decode cX8_custom_ 123 = .ok (.ifCond .eq 7, 3) := by decide +kernel
theorem dX8_custom__126 : decode cX8_custom_ 126 = .ok (.iconst 1, 1) := by decide +kernel
theorem dX8_custom__127 : decode cX8_custom_ 127 = .ok (.goto 4, 3) := by decide +kernel
theorem dX8_custom__130 : decode cX8_custom_ 130 = .ok (.iconst 0, 1) := by decide +kernel
theorem dX8_custom__131 : decode cX8_custom_ 131 = .ok (.istore_n 3, 1) := by decide +kernel
theorem dX8_custom__132 : decode cX8_custom_ 132 = .ok (.iinc 2 1, 3) := by decide +kernel
theorem dX8_custom__135 : decode cX8_custom_ 135 = .ok (.iload_n 3, 1) := by decide +kernel
theorem dX8_custom__136 : decode cX8_custom_ 136 = .ok (.ifCond .eq (-38), 3) := by decide +kernel
theorem dX8_custom__139 : decode cX8_custom_ 139 = .ok (.aload_n 0, 1) := by decide +kernel
theorem dX8_custom__140 : decode cX8_custom_ 140 = .ok (.invokevirtual 159, 3) := by decide +kernel
theorem dX8_custom__143 : decode cX8_custom_ 143 = .ok (.goto (-45), 3) := by decide +kernel
theorem dX8_custom__146 : decode cX8_custom_ 146 = .ok (.aload_n 0, 1) := by decide +kernel
theorem dX8_custom__147 : decode cX8_custom_ 147 = .ok (.iload_n 3, 1) := by decide +kernel
theorem dX8_custom__148 : decode cX8_custom_ 148 = .ok (.ifCond .eq 7, 3) := by decide +kernel
theorem dX8_custom__151 : decode cX8_custom_ 151 = .ok (.iconst (-1), 1) := by decide +kernel
theorem dX8_custom__152 : decode cX8_custom_ 152 = .ok (.goto 7, 3) := by decide +kernel
theorem dX8_custom__155 : decode cX8_custom_ 155 = .ok (.aload_n 0, 1) := by decide +kernel
theorem dX8_custom__156 : decode cX8_custom_ 156 = .ok (.getfield 153, 3) := by decide +kernel
theorem dX8_custom__159 : decode cX8_custom_ 159 = .ok (.putfield 85, 3) := by decide +kernel
theorem dX8_custom__162 : decode cX8_custom_ 162 = .ok (.iload_n 3, 1) := by decide +kernel
theorem dX8_custom__163 : decode cX8_custom_ 163 = .ok (.ifCond .ne 5, 3) := by decide +kernel
theorem dX8_custom__166 : decode cX8_custom_ 166 = .ok (.iconst (-1), 1) := by decide +kernel
theorem dX8_custom__167 : decode cX8_custom_ 167 = .ok (.ireturn, 1) := by decide +kernel
theorem dX8_custom__168 : decode cX8_custom_ 168 = .ok (.iconst 0, 1) := by decide +kernel
theorem dX8_custom__169 : decode cX8_custom_ 169 = .ok (.istore 4, 2) := by decide +kernel
theorem dX8_custom__171 : decode cX8_custom_ 171 = .ok (.iload 4, 2) := by decide +kernel
theorem dX8_custom__173 : decode cX8_custom_ 173 = .ok (.bipush 14, 2) := by decide +kernel
theorem dX8_custom__175 : decode cX8_custom_ 175 = .ok (.if_icmp .ge 26, 3) := by decide +kernel
theorem dX8_custom__178 : decode cX8_custom_ 178 = .ok (.aload_n 0, 1) := by decide +kernel
theorem dX8_custom__179 : decode cX8_custom_ 179 = .ok (.getfield 88, 3) := by decide +kernel
theorem dX8_custom__182 : decode cX8_custom_ 182 = .ok (.iload 4, 2) := by decide +kernel
theorem dX8_custom__184 : decode cX8_custom_ 184 = .ok (.aload_n 0, 1) := by decide +kernel
theorem dX8_custom__185 : decode cX8_custom_ 185 = .ok (.getfield 88, 3) := by decide +kernel
theorem dX8_custom__188 : decode cX8_custom_ 188 = .ok (.bipush 14, 2) := by decide +kernel
theorem dX8_custom__190 : decode cX8_custom_ 190 = .ok (.iload 4, 2) := by decide +kernel
theorem dX8_custom__192 : decode cX8_custom_ 192 = .ok (.iadd, 1) := by decide +kernel
theorem dX8_custom__193 : decode cX8_custom_ 193 = .ok (.iaload, 1) := by decide +kernel
theorem dX8_custom__194 : decode cX8_custom_ 194 = .ok (.iastore, 1) := by decide +kernel
theorem dX8_custom__195 : decode cX8_custom_ 195 = .ok (.iinc 4 1, 3) := by decide +kernel
theorem dX8_custom__198 : decode cX8_custom_ 198 = .ok (.goto (-27), 3) := by decide +kernel
theorem dX8_custom__201 : decode cX8_custom_ 201 = .ok (.aload_n 0, 1) := by decide +kernel
theorem dX8_custom__202 : decode cX8_custom_ 202 = .ok (.iconst 1, 1) := by decide +kernel
theorem dX8_custom__203 : decode cX8_custom_ 203 = .ok (.putfield 142, 3) := by decide +kernel
theorem dX8_custom__206 : decode cX8_custom_ 206 = .ok (.iload_n 2, 1) := by decide +kernel
theorem dX8_custom__207 : decode cX8_custom_ 207 = .ok (.ireturn, 1) := by decide +kernel
theorem dX8_fault_0 : decode cX8_fault 0 = .ok (.aload_n 0, 1) := by decide +kernel
theorem dX8_fault_1 : decode cX8_fault 1 = .ok (.getfield 85, 3) := by decide +kernel
theorem dX8_fault_4 : decode cX8_fault 4 = .ok (.ireturn, 1) := by decide +kernel
theorem dX8_isAhead_0 : decode cX8_isAhead 0 = .ok (.iconst 1, 1) := by decide +kernel
theorem dX8_isAhead_1 : decode cX8_isAhead 1 = .ok (.istore_n 3, 1) := by decide +kernel
theorem dX8_isAhead_2 : decode cX8_isAhead 2 = .ok (.iload_n 3, 1) := by decide +kernel
theorem dX8_isAhead_3 : decode cX8_isAhead 3 = .ok (.aload_n 0, 1) := by decide +kernel
theorem dX8_isAhead_4 : decode cX8_isAhead 4 = .ok (.iconst 0, 1) := by decide +kernel
theorem dX8_isAhead_5 : decode cX8_isAhead 5 = .ok (.iconst 0, 1) := by decide +kernel
theorem dX8_isAhead_6 : decode cX8_isAhead 6 = .ok (.invokevirtual 195, 3) := by decide +kernel
theorem dX8_isAhead_9 : decode cX8_isAhead 9 = .ok (.if_icmp .gt 97, 3) := by decide +kernel
theorem dX8_isAhead_12 : decode cX8_isAhead 12 = .ok (.aload_n 0, 1) := by decide +kernel
theorem dX8_isAhead_13 : decode cX8_isAhead 13 = .ok (.getfield 88, 3) := by decide +kernel
theorem dX8_isAhead_16 : decode cX8_isAhead 16 = .ok (.iload_n 3, 1) := by decide +kernel
theorem dX8_isAhead_17 : decode cX8_isAhead 17 = .ok (.iaload, 1) := by decide +kernel
theorem dX8_isAhead_18 : decode cX8_isAhead 18 = .ok (.ifCond .ne 25, 3) := by decide +kernel
theorem dX8_isAhead_21 : decode cX8_isAhead 21 = .ok (.aload_n 0, 1) := by decide +kernel
theorem dX8_isAhead_22 : decode cX8_isAhead 22 = .ok (.getfield 62, 3) := by decide +kernel
theorem dX8_isAhead_25 : decode cX8_isAhead 25 = .ok (.iload_n 1, 1) := by decide +kernel
theorem dX8_isAhead_26 : decode cX8_isAhead 26 = .ok (.baload, 1) := by decide +kernel
theorem dX8_isAhead_27 : decode cX8_isAhead 27 = .ok (.invokestatic 198, 3) := by decide +kernel
theorem dX8_isAhead_30 : decode cX8_isAhead 30 = .ok (.aload_n 0, 1) := by decide +kernel
theorem dX8_isAhead_31 : decode cX8_isAhead 31 = .ok (.getfield 62, 3) := by decide +kernel
theorem dX8_isAhead_34 : decode cX8_isAhead 34 = .ok (.iload_n 2, 1) := by decide +kernel
theorem dX8_isAhead_35 : decode cX8_isAhead 35 = .ok (.baload, 1) := by decide +kernel
theorem dX8_isAhead_36 : decode cX8_isAhead 36 = .ok (.invokestatic 198, 3) := by decide +kernel
theorem dX8_isAhead_39 : decode cX8_isAhead 39 = .ok (.isub, 1) := by decide +kernel
theorem dX8_isAhead_40 : decode cX8_isAhead 40 = .ok (.goto 42, 3) := by decide +kernel
theorem dX8_isAhead_43 : decode cX8_isAhead 43 = .ok (.aload_n 0, 1) := by decide +kernel
theorem dX8_isAhead_44 : decode cX8_isAhead 44 = .ok (.getfield 88, 3) := by decide +kernel
theorem dX8_isAhead_47 : decode cX8_isAhead 47 = .ok (.iload_n 3, 1) := by decide +kernel
theorem dX8_isAhead_48 : decode cX8_isAhead 48 = .ok (.iaload, 1) := by decide +kernel
theorem dX8_isAhead_49 : decode cX8_isAhead 49 = .ok (.iconst 1, 1) := by decide +kernel
theorem dX8_isAhead_50 : decode cX8_isAhead 50 = .ok (.if_icmp .ne 19, 3) := by decide +kernel
theorem dX8_isAhead_53 : decode cX8_isAhead 53 = .ok (.aload_n 0, 1) := by decide +kernel
theorem dX8_isAhead_54 : decode cX8_isAhead 54 = .ok (.getfield 47, 3) := by decide +kernel
theorem dX8_isAhead_57 : decode cX8_isAhead 57 = .ok (.iload_n 2, 1) := by decide +kernel
theorem dX8_isAhead_58 : decode cX8_isAhead 58 = .ok (.iaload, 1) := by decide +kernel
theorem dX8_isAhead_59 : decode cX8_isAhead 59 = .ok (.aload_n 0, 1) := by decide +kernel
theorem dX8_isAhead_60 : decode cX8_isAhead 60 = .ok (.getfield 47, 3) := by decide +kernel
theorem dX8_isAhead_63 : decode cX8_isAhead 63 = .ok (.iload_n 1, 1) := by decide +kernel
theorem dX8_isAhead_64 : decode cX8_isAhead 64 = .ok (.iaload, 1) := by decide +kernel
theorem dX8_isAhead_65 : decode cX8_isAhead 65 = .ok (.isub, 1) := by decide +kernel
theorem dX8_isAhead_66 : decode cX8_isAhead 66 = .ok (.goto 16, 3) := by decide +kernel
theorem dX8_isAhead_69 : decode cX8_isAhead 69 = .ok (.aload_n 0, 1) := by decide +kernel
theorem dX8_isAhead_70 : decode cX8_isAhead 70 = .ok (.getfield 44, 3) := by decide +kernel
theorem dX8_isAhead_73 : decode cX8_isAhead 73 = .ok (.iload_n 2, 1) := by decide +kernel
theorem dX8_isAhead_74 : decode cX8_isAhead 74 = .ok (.iaload, 1) := by decide +kernel
theorem dX8_isAhead_75 : decode cX8_isAhead 75 = .ok (.aload_n 0, 1) := by decide +kernel
theorem dX8_isAhead_76 : decode cX8_isAhead 76 = .ok (.getfield 44, 3) := by decide +kernel
theorem dX8_isAhead_79 : decode cX8_isAhead 79 = .ok (.iload_n 1, 1) := by decide +kernel
theorem dX8_isAhead_80 : decode cX8_isAhead 80 = .ok (.iaload, 1) := by decide +kernel
theorem dX8_isAhead_81 : decode cX8_isAhead 81 = .ok (.isub, 1) := by decide +kernel
theorem dX8_isAhead_82 : decode cX8_isAhead 82 = .ok (.istore 4, 2) := by decide +kernel
theorem dX8_isAhead_84 : decode cX8_isAhead 84 = .ok (.iload 4, 2) := by decide +kernel
theorem dX8_isAhead_86 : decode cX8_isAhead 86 = .ok (.ifCond .eq 14, 3) := by decide +kernel
theorem dX8_isAhead_89 : decode cX8_isAhead 89 = .ok (.iload 4, 2) := by decide +kernel
theorem dX8_isAhead_91 : decode cX8_isAhead 91 = .ok (.ifCond .le 7, 3) := by decide +kernel
theorem dX8_isAhead_94 : decode cX8_isAhead 94 = .ok (.iconst 1, 1) := by decide +kernel
theorem dX8_isAhead_95 : decode cX8_isAhead 95 = .ok (.goto 4, 3) := by decide +kernel
theorem dX8_isAhead_98 : decode cX8_isAhead 98 = .ok (.iconst 0, 1) := by decide +kernel
theorem dX8_isAhead_99 : decode cX8_isAhead 99 = .ok (.ireturn, 1) := by decide +kernel
theorem dX8_isAhead_100 : decode cX8_isAhead 100 = .ok (.iinc 3 1, 3) := by decide +kernel
theorem dX8_isAhead_103 : decode cX8_isAhead 103 = .ok (.goto (-101), 3) := by decide +kernel
theorem dX8_isAhead_106 : decode cX8_isAhead 106 = .ok (.iload_n 1, 1) := by decide +kernel
theorem dX8_isAhead_107 : decode cX8_isAhead 107 = .ok (.iload_n 2, 1) := by decide +kernel
theorem dX8_isAhead_108 : decode cX8_isAhead 108 = .ok (.if_icmp .ge 7, 3) := by decide +kernel
theorem dX8_isAhead_111 : decode cX8_isAhead 111 = .ok (.iconst 1, 1) := by decide +kernel
theorem dX8_isAhead_112 : decode cX8_isAhead 112 = .ok (.goto 4, 3) := by decide +kernel
theorem dX8_isAhead_115 : decode cX8_isAhead 115 = .ok (.iconst 0, 1) := by decide +kernel
theorem dX8_isAhead_116 : decode cX8_isAhead 116 = .ok (.ireturn, 1) := by decide +kernel
theorem dX8_ordered_0 : decode cX8_ordered 0 = .ok (.iconst 0, 1) := by decide +kernel
theorem dX8_ordered_1 : decode cX8_ordered 1 = .ok (.istore_n 2, 1) := by decide +kernel
theorem dX8_ordered_2 : decode cX8_ordered 2 = .ok (.iconst 0, 1) := by decide +kernel
theorem dX8_ordered_3 : decode cX8_ordered 3 = .ok (.istore_n 3, 1) := by decide +kernel
theorem dX8_ordered_4 : decode cX8_ordered 4 = .ok (.iload_n 3, 1) := by decide +kernel
theorem dX8_ordered_5 : decode cX8_ordered 5 = .ok (.aload_n 0, 1) := by decide +kernel
theorem dX8_ordered_6 : decode cX8_ordered 6 = .ok (.getfield 139, 3) := by decide +kernel
theorem dX8_ordered_9 : decode cX8_ordered 9 = .ok (.if_icmp .ge 80, 3) := by decide +kernel
theorem dX8_ordered_12 : decode cX8_ordered 12 = .ok (.aload_n 0, 1) := by decide +kernel
theorem dX8_ordered_13 : decode cX8_ordered 13 = .ok (.getfield 41, 3) := by decide +kernel
theorem dX8_ordered_16 : decode cX8_ordered 16 = .ok (.iload_n 3, 1) := by decide +kernel
theorem dX8_ordered_17 : decode cX8_ordered 17 = .ok (.iaload, 1) := by decide +kernel
theorem dX8_ordered_18 : decode cX8_ordered 18 = .ok (.iload_n 1, 1) := by decide +kernel
theorem dX8_ordered_19 : decode cX8_ordered 19 = .ok (.if_icmp .eq 6, 3) := by decide +kernel
theorem dX8_ordered_22 : decode cX8_ordered 22 = .ok (.goto 61, 3) := by decide +kernel
theorem dX8_ordered_25 : decode cX8_ordered 25 = .ok (.iload_n 2, 1) := by decide +kernel
theorem dX8_ordered_26 : decode cX8_ordered 26 = .ok (.istore 4, 2) := by decide +kernel
theorem dX8_ordered_28 : decode cX8_ordered 28 = .ok (.iload 4, 2) := by decide +kernel
theorem dX8_ordered_30 : decode cX8_ordered 30 = .ok (.ifCond .le 42, 3) := by decide +kernel
theorem dX8_ordered_33 : decode cX8_ordered 33 = .ok (.aload_n 0, 1) := by decide +kernel
theorem dX8_ordered_34 : decode cX8_ordered 34 = .ok (.iload_n 3, 1) := by decide +kernel
theorem dX8_ordered_35 : decode cX8_ordered 35 = .ok (.aload_n 0, 1) := by decide +kernel
theorem dX8_ordered_36 : decode cX8_ordered 36 = .ok (.getfield 91, 3) := by decide +kernel
theorem dX8_ordered_39 : decode cX8_ordered 39 = .ok (.iload 4, 2) := by decide +kernel
theorem dX8_ordered_41 : decode cX8_ordered 41 = .ok (.iconst 1, 1) := by decide +kernel
theorem dX8_ordered_42 : decode cX8_ordered 42 = .ok (.isub, 1) := by decide +kernel
theorem dX8_ordered_43 : decode cX8_ordered 43 = .ok (.iaload, 1) := by decide +kernel
theorem dX8_ordered_44 : decode cX8_ordered 44 = .ok (.invokevirtual 202, 3) := by decide +kernel
theorem dX8_ordered_47 : decode cX8_ordered 47 = .ok (.ifCond .eq 25, 3) := by decide +kernel
theorem dX8_ordered_50 : decode cX8_ordered 50 = .ok (.aload_n 0, 1) := by decide +kernel
theorem dX8_ordered_51 : decode cX8_ordered 51 = .ok (.getfield 91, 3) := by decide +kernel
theorem dX8_ordered_54 : decode cX8_ordered 54 = .ok (.iload 4, 2) := by decide +kernel
theorem dX8_ordered_56 : decode cX8_ordered 56 = .ok (.aload_n 0, 1) := by decide +kernel
theorem dX8_ordered_57 : decode cX8_ordered 57 = .ok (.getfield 91, 3) := by decide +kernel
theorem dX8_ordered_60 : decode cX8_ordered 60 = .ok (.iload 4, 2) := by decide +kernel
theorem dX8_ordered_62 : decode cX8_ordered 62 = .ok (.iconst 1, 1) := by decide +kernel
theorem dX8_ordered_63 : decode cX8_ordered 63 = .ok (.isub, 1) := by decide +kernel
theorem dX8_ordered_64 : decode cX8_ordered 64 = .ok (.iaload, 1) := by decide +kernel
theorem dX8_ordered_65 : decode cX8_ordered 65 = .ok (.iastore, 1) := by decide +kernel
theorem dX8_ordered_66 : decode cX8_ordered 66 = .ok (.iinc 4 (-1), 3) := by decide +kernel
theorem dX8_ordered_69 : decode cX8_ordered 69 = .ok (.goto (-41), 3) := by decide +kernel
theorem dX8_ordered_72 : decode cX8_ordered 72 = .ok (.aload_n 0, 1) := by decide +kernel
theorem dX8_ordered_73 : decode cX8_ordered 73 = .ok (.getfield 91, 3) := by decide +kernel
theorem dX8_ordered_76 : decode cX8_ordered 76 = .ok (.iload 4, 2) := by decide +kernel
theorem dX8_ordered_78 : decode cX8_ordered 78 = .ok (.iload_n 3, 1) := by decide +kernel
theorem dX8_ordered_79 : decode cX8_ordered 79 = .ok (.iastore, 1) := by decide +kernel
theorem dX8_ordered_80 : decode cX8_ordered 80 = .ok (.iinc 2 1, 3) := by decide +kernel
theorem dX8_ordered_83 : decode cX8_ordered 83 = .ok (.iinc 3 1, 3) := by decide +kernel
theorem dX8_ordered_86 : decode cX8_ordered 86 = .ok (.goto (-82), 3) := by decide +kernel
theorem dX8_ordered_89 : decode cX8_ordered 89 = .ok (.iload_n 2, 1) := by decide +kernel
theorem dX8_ordered_90 : decode cX8_ordered 90 = .ok (.ireturn, 1) := by decide +kernel
theorem dX8_order_0 : decode cX8_order 0 = .ok (.aload_n 0, 1) := by decide +kernel
theorem dX8_order_1 : decode cX8_order 1 = .ok (.iload_n 1, 1) := by decide +kernel
theorem dX8_order_2 : decode cX8_order 2 = .ok (.invokevirtual 125, 3) := by decide +kernel
theorem dX8_order_5 : decode cX8_order 5 = .ok (.ifCond .ne 5, 3) := by decide +kernel
theorem dX8_order_8 : decode cX8_order 8 = .ok (.iconst (-1), 1) := by decide +kernel
theorem dX8_order_9 : decode cX8_order 9 = .ok (.ireturn, 1) := by decide +kernel
theorem dX8_order_10 : decode cX8_order 10 = .ok (.aload_n 0, 1) := by decide +kernel
theorem dX8_order_11 : decode cX8_order 11 = .ok (.iload_n 1, 1) := by decide +kernel
theorem dX8_order_12 : decode cX8_order 12 = .ok (.invokevirtual 206, 3) := by decide +kernel
theorem dX8_order_15 : decode cX8_order 15 = .ok (.istore_n 3, 1) := by decide +kernel
theorem dX8_order_16 : decode cX8_order 16 = .ok (.iload_n 2, 1) := by decide +kernel
theorem dX8_order_17 : decode cX8_order 17 = .ok (.iconst 0, 1) := by decide +kernel
theorem dX8_order_18 : decode cX8_order 18 = .ok (.iload_n 3, 1) := by decide +kernel
theorem dX8_order_19 : decode cX8_order 19 = .ok (.iconst 1, 1) := by decide +kernel
theorem dX8_order_20 : decode cX8_order 20 = .ok (.isub, 1) := by decide +kernel
theorem dX8_order_21 : decode cX8_order 21 = .ok (.invokestatic 121, 3) := by decide +kernel
theorem dX8_order_24 : decode cX8_order 24 = .ok (.ifCond .eq 12, 3) := by decide +kernel
theorem dX8_order_27 : decode cX8_order 27 = .ok (.aload_n 0, 1) := by decide +kernel
theorem dX8_order_28 : decode cX8_order 28 = .ok (.getfield 91, 3) := by decide +kernel
theorem dX8_order_31 : decode cX8_order 31 = .ok (.iload_n 2, 1) := by decide +kernel
theorem dX8_order_32 : decode cX8_order 32 = .ok (.iaload, 1) := by decide +kernel
theorem dX8_order_33 : decode cX8_order 33 = .ok (.goto 4, 3) := by decide +kernel
theorem dX8_order_36 : decode cX8_order 36 = .ok (.iconst (-1), 1) := by decide +kernel
theorem dX8_order_37 : decode cX8_order 37 = .ok (.ireturn, 1) := by decide +kernel
theorem dX8_isBad_0 : decode cX8_isBad 0 = .ok (.iload_n 2, 1) := by decide +kernel
theorem dX8_isBad_1 : decode cX8_isBad 1 = .ok (.aload_n 0, 1) := by decide +kernel
theorem dX8_isBad_2 : decode cX8_isBad 2 = .ok (.getfield 13, 3) := by decide +kernel
theorem dX8_isBad_5 : decode cX8_isBad 5 = .ok (.iload_n 1, 1) := by decide +kernel
theorem dX8_isBad_6 : decode cX8_isBad 6 = .ok (.iaload, 1) := by decide +kernel
theorem dX8_isBad_7 : decode cX8_isBad 7 = .ok (.iconst 2, 1) := by decide +kernel
theorem dX8_isBad_8 : decode cX8_isBad 8 = .ok (.idiv, 1) := by decide +kernel
theorem dX8_isBad_9 : decode cX8_isBad 9 = .ok (.if_icmp .ge 7, 3) := by decide +kernel
theorem dX8_isBad_12 : decode cX8_isBad 12 = .ok (.iconst 1, 1) := by decide +kernel
theorem dX8_isBad_13 : decode cX8_isBad 13 = .ok (.goto 4, 3) := by decide +kernel
theorem dX8_isBad_16 : decode cX8_isBad 16 = .ok (.iconst 0, 1) := by decide +kernel
theorem dX8_isBad_17 : decode cX8_isBad 17 = .ok (.ireturn, 1) := by decide +kernel
theorem dX8_gives_0 : decode cX8_gives 0 = .ok (.iload_n 3, 1) := by decide +kernel
theorem dX8_gives_1 : decode cX8_gives 1 = .ok (.iconst 0, 1) := by decide +kernel
theorem dX8_gives_2 : decode cX8_gives 2 = .ok (.iload_n 2, 1) := by decide +kernel
theorem dX8_gives_3 : decode cX8_gives 3 = .ok (.aload_n 0, 1) := by decide +kernel
theorem dX8_gives_4 : decode cX8_gives 4 = .ok (.bipush 12, 2) := by decide +kernel
theorem dX8_gives_6 : decode cX8_gives 6 = .ok (.iconst 0, 1) := by decide +kernel
theorem dX8_gives_7 : decode cX8_gives 7 = .ok (.invokevirtual 195, 3) := by decide +kernel
theorem dX8_gives_10 : decode cX8_gives 10 = .ok (.aload_n 0, 1) := by decide +kernel
theorem dX8_gives_11 : decode cX8_gives 11 = .ok (.getfield 13, 3) := by decide +kernel
theorem dX8_gives_14 : decode cX8_gives 14 = .ok (.iload_n 1, 1) := by decide +kernel
theorem dX8_gives_15 : decode cX8_gives 15 = .ok (.iaload, 1) := by decide +kernel
theorem dX8_gives_16 : decode cX8_gives 16 = .ok (.imul, 1) := by decide +kernel
theorem dX8_gives_17 : decode cX8_gives 17 = .ok (.bipush 100, 2) := by decide +kernel
theorem dX8_gives_19 : decode cX8_gives 19 = .ok (.idiv, 1) := by decide +kernel
theorem dX8_gives_20 : decode cX8_gives 20 = .ok (.isub, 1) := by decide +kernel
theorem dX8_gives_21 : decode cX8_gives 21 = .ok (.invokestatic 115, 3) := by decide +kernel
theorem dX8_gives_24 : decode cX8_gives 24 = .ok (.invokestatic 109, 3) := by decide +kernel
theorem dX8_gives_27 : decode cX8_gives 27 = .ok (.istore 4, 2) := by decide +kernel
theorem dX8_gives_29 : decode cX8_gives 29 = .ok (.aload_n 0, 1) := by decide +kernel
theorem dX8_gives_30 : decode cX8_gives 30 = .ok (.iload_n 1, 1) := by decide +kernel
theorem dX8_gives_31 : decode cX8_gives 31 = .ok (.invokevirtual 206, 3) := by decide +kernel
theorem dX8_gives_34 : decode cX8_gives 34 = .ok (.istore 5, 2) := by decide +kernel
theorem dX8_gives_36 : decode cX8_gives 36 = .ok (.iconst 0, 1) := by decide +kernel
theorem dX8_gives_37 : decode cX8_gives 37 = .ok (.istore 6, 2) := by decide +kernel
theorem dX8_gives_39 : decode cX8_gives 39 = .ok (.iconst 0, 1) := by decide +kernel
theorem dX8_gives_40 : decode cX8_gives 40 = .ok (.istore 7, 2) := by decide +kernel
theorem dX8_gives_42 : decode cX8_gives 42 = .ok (.iload 7, 2) := by decide +kernel
theorem dX8_gives_44 : decode cX8_gives 44 = .ok (.iload 5, 2) := by decide +kernel
theorem dX8_gives_46 : decode cX8_gives 46 = .ok (.if_icmp .ge 87, 3) := by decide +kernel
theorem dX8_gives_49 : decode cX8_gives 49 = .ok (.aload_n 0, 1) := by decide +kernel
theorem dX8_gives_50 : decode cX8_gives 50 = .ok (.getfield 91, 3) := by decide +kernel
theorem dX8_gives_53 : decode cX8_gives 53 = .ok (.iload 7, 2) := by decide +kernel
theorem dX8_gives_55 : decode cX8_gives 55 = .ok (.iaload, 1) := by decide +kernel
theorem dX8_gives_56 : decode cX8_gives 56 = .ok (.istore 8, 2) := by decide +kernel
theorem dX8_gives_58 : decode cX8_gives 58 = .ok (.aload_n 0, 1) := by decide +kernel
theorem dX8_gives_59 : decode cX8_gives 59 = .ok (.getfield 94, 3) := by decide +kernel
theorem dX8_gives_62 : decode cX8_gives 62 = .ok (.iload 8, 2) := by decide +kernel
theorem dX8_gives_64 : decode cX8_gives 64 = .ok (.iconst 0, 1) := by decide +kernel
theorem dX8_gives_65 : decode cX8_gives 65 = .ok (.iastore, 1) := by decide +kernel
theorem dX8_gives_66 : decode cX8_gives 66 = .ok (.aload_n 0, 1) := by decide +kernel
theorem dX8_gives_67 : decode cX8_gives 67 = .ok (.getfield 97, 3) := by decide +kernel
theorem dX8_gives_70 : decode cX8_gives 70 = .ok (.iload 8, 2) := by decide +kernel
theorem dX8_gives_72 : decode cX8_gives 72 = .ok (.aload_n 0, 1) := by decide +kernel
theorem dX8_gives_73 : decode cX8_gives 73 = .ok (.iload_n 1, 1) := by decide +kernel
theorem dX8_gives_74 : decode cX8_gives 74 = .ok (.iload_n 2, 1) := by decide +kernel
theorem dX8_gives_75 : decode cX8_gives 75 = .ok (.invokevirtual 210, 3) := by decide +kernel
theorem dX8_gives_78 : decode cX8_gives 78 = .ok (.ifCond .eq 25, 3) := by decide +kernel
theorem dX8_gives_81 : decode cX8_gives 81 = .ok (.aload_n 0, 1) := by decide +kernel
theorem dX8_gives_82 : decode cX8_gives 82 = .ok (.getfield 44, 3) := by decide +kernel
theorem dX8_gives_85 : decode cX8_gives 85 = .ok (.iload 8, 2) := by decide +kernel
theorem dX8_gives_87 : decode cX8_gives 87 = .ok (.iaload, 1) := by decide +kernel
theorem dX8_gives_88 : decode cX8_gives 88 = .ok (.aload_n 0, 1) := by decide +kernel
theorem dX8_gives_89 : decode cX8_gives 89 = .ok (.bipush 11, 2) := by decide +kernel
theorem dX8_gives_91 : decode cX8_gives 91 = .ok (.bipush 9, 2) := by decide +kernel
theorem dX8_gives_93 : decode cX8_gives 93 = .ok (.invokevirtual 195, 3) := by decide +kernel
theorem dX8_gives_96 : decode cX8_gives 96 = .ok (.if_icmp .le 7, 3) := by decide +kernel
theorem dX8_gives_99 : decode cX8_gives 99 = .ok (.iconst 1, 1) := by decide +kernel
theorem dX8_gives_100 : decode cX8_gives 100 = .ok (.goto 4, 3) := by decide +kernel
theorem dX8_gives_103 : decode cX8_gives 103 = .ok (.iconst 0, 1) := by decide +kernel
theorem dX8_gives_104 : decode cX8_gives 104 = .ok (.bastore, 1) := by decide +kernel
theorem dX8_gives_105 : decode cX8_gives 105 = .ok (.aload_n 0, 1) := by decide +kernel
theorem dX8_gives_106 : decode cX8_gives 106 = .ok (.getfield 97, 3) := by decide +kernel
theorem dX8_gives_109 : decode cX8_gives 109 = .ok (.iload 8, 2) := by decide +kernel
theorem dX8_gives_111 : decode cX8_gives 111 = .ok (.baload, 1) := by decide +kernel
theorem dX8_gives_112 : decode cX8_gives 112 = .ok (.ifCond .ne 15, 3) := by decide +kernel
theorem dX8_gives_115 : decode cX8_gives 115 = .ok (.iload 6, 2) := by decide +kernel
theorem dX8_gives_117 : decode cX8_gives 117 = .ok (.aload_n 0, 1) := by decide +kernel
theorem dX8_gives_118 : decode cX8_gives 118 = .ok (.getfield 47, 3) := by decide +kernel
theorem dX8_gives_121 : decode cX8_gives 121 = .ok (.iload 8, 2) := by decide +kernel
theorem dX8_gives_123 : decode cX8_gives 123 = .ok (.iaload, 1) := by decide +kernel
theorem dX8_gives_124 : decode cX8_gives 124 = .ok (.iadd, 1) := by decide +kernel
theorem dX8_gives_125 : decode cX8_gives 125 = .ok (.istore 6, 2) := by decide +kernel
theorem dX8_gives_127 : decode cX8_gives 127 = .ok (.iinc 7 1, 3) := by decide +kernel
theorem dX8_gives_130 : decode cX8_gives 130 = .ok (.goto (-88), 3) := by decide +kernel
theorem dX8_gives_133 : decode cX8_gives 133 = .ok (.aload_n 0, 1) := by decide +kernel
theorem dX8_gives_134 : decode cX8_gives 134 = .ok (.bipush 13, 2) := by decide +kernel
theorem dX8_gives_136 : decode cX8_gives 136 = .ok (.iconst 0, 1) := by decide +kernel
theorem dX8_gives_137 : decode cX8_gives 137 = .ok (.invokevirtual 195, 3) := by decide +kernel
theorem dX8_gives_140 : decode cX8_gives 140 = .ok (.iconst 1, 1) := by decide +kernel
theorem dX8_gives_141 : decode cX8_gives 141 = .ok (.if_icmp .ne 14, 3) := by decide +kernel
theorem dX8_gives_144 : decode cX8_gives 144 = .ok (.iload 4, 2) := by decide +kernel
theorem dX8_gives_146 : decode cX8_gives 146 = .ok (.iload 6, 2) := by decide +kernel
theorem dX8_gives_148 : decode cX8_gives 148 = .ok (.if_icmp .ge 7, 3) := by decide +kernel
theorem dX8_gives_151 : decode cX8_gives 151 = .ok (.iconst 1, 1) := by decide +kernel
theorem dX8_gives_152 : decode cX8_gives 152 = .ok (.goto 4, 3) := by decide +kernel
theorem dX8_gives_155 : decode cX8_gives 155 = .ok (.iconst 0, 1) := by decide +kernel
theorem dX8_gives_156 : decode cX8_gives 156 = .ok (.istore 7, 2) := by decide +kernel
theorem dX8_gives_158 : decode cX8_gives 158 = .ok (.iload 4, 2) := by decide +kernel
theorem dX8_gives_160 : decode cX8_gives 160 = .ok (.istore 8, 2) := by decide +kernel
theorem dX8_gives_162 : decode cX8_gives 162 = .ok (.iconst 0, 1) := by decide +kernel
theorem dX8_gives_163 : decode cX8_gives 163 = .ok (.istore 9, 2) := by decide +kernel
theorem dX8_gives_165 : decode cX8_gives 165 = .ok (.iload 9, 2) := by decide +kernel
theorem dX8_gives_167 : decode cX8_gives 167 = .ok (.iload 5, 2) := by decide +kernel
theorem dX8_gives_169 : decode cX8_gives 169 = .ok (.if_icmp .ge 94, 3) := by decide +kernel
theorem dX8_gives_172 : decode cX8_gives 172 = .ok (.aload_n 0, 1) := by decide +kernel
theorem dX8_gives_173 : decode cX8_gives 173 = .ok (.getfield 91, 3) := by decide +kernel
theorem dX8_gives_176 : decode cX8_gives 176 = .ok (.iload 9, 2) := by decide +kernel
theorem dX8_gives_178 : decode cX8_gives 178 = .ok (.iaload, 1) := by decide +kernel
theorem dX8_gives_179 : decode cX8_gives 179 = .ok (.istore 10, 2) := by decide +kernel
theorem dX8_gives_181 : decode cX8_gives 181 = .ok (.aload_n 0, 1) := by decide +kernel
theorem dX8_gives_182 : decode cX8_gives 182 = .ok (.getfield 97, 3) := by decide +kernel
theorem dX8_gives_185 : decode cX8_gives 185 = .ok (.iload 10, 2) := by decide +kernel
theorem dX8_gives_187 : decode cX8_gives 187 = .ok (.baload, 1) := by decide +kernel
theorem dX8_gives_188 : decode cX8_gives 188 = .ok (.ifCond .eq 6, 3) := by decide +kernel
theorem dX8_gives_191 : decode cX8_gives 191 = .ok (.goto 66, 3) := by decide +kernel
theorem dX8_gives_194 : decode cX8_gives 194 = .ok (.aload_n 0, 1) := by decide +kernel
theorem dX8_gives_195 : decode cX8_gives 195 = .ok (.getfield 94, 3) := by decide +kernel
theorem dX8_gives_198 : decode cX8_gives 198 = .ok (.iload 10, 2) := by decide +kernel
theorem dX8_gives_200 : decode cX8_gives 200 = .ok (.iload 7, 2) := by decide +kernel
theorem dX8_gives_202 : decode cX8_gives 202 = .ok (.ifCond .eq 19, 3) := by decide +kernel
theorem dX8_gives_205 : decode cX8_gives 205 = .ok (.iload 8, 2) := by decide +kernel
theorem dX8_gives_207 : decode cX8_gives 207 = .ok (.aload_n 0, 1) := by decide +kernel
theorem dX8_gives_208 : decode cX8_gives 208 = .ok (.getfield 47, 3) := by decide +kernel
theorem dX8_gives_211 : decode cX8_gives 211 = .ok (.iload 10, 2) := by decide +kernel
theorem dX8_gives_213 : decode cX8_gives 213 = .ok (.iaload, 1) := by decide +kernel
theorem dX8_gives_214 : decode cX8_gives 214 = .ok (.imul, 1) := by decide +kernel
theorem dX8_gives_215 : decode cX8_gives 215 = .ok (.iload 6, 2) := by decide +kernel
theorem dX8_gives_217 : decode cX8_gives 217 = .ok (.idiv, 1) := by decide +kernel
theorem dX8_gives_218 : decode cX8_gives 218 = .ok (.goto 26, 3) := by decide +kernel
theorem dX8_gives_221 : decode cX8_gives 221 = .ok (.aload_n 0, 1) := by decide +kernel
theorem dX8_gives_222 : decode cX8_gives 222 = .ok (.getfield 47, 3) := by decide +kernel
theorem dX8_gives_225 : decode cX8_gives 225 = .ok (.iload 10, 2) := by decide +kernel
theorem dX8_gives_227 : decode cX8_gives 227 = .ok (.iaload, 1) := by decide +kernel
theorem dX8_gives_228 : decode cX8_gives 228 = .ok (.iload 4, 2) := by decide +kernel
theorem dX8_gives_230 : decode cX8_gives 230 = .ok (.if_icmp .gt 13, 3) := by decide +kernel
theorem dX8_gives_233 : decode cX8_gives 233 = .ok (.aload_n 0, 1) := by decide +kernel
theorem dX8_gives_234 : decode cX8_gives 234 = .ok (.getfield 47, 3) := by decide +kernel
theorem dX8_gives_237 : decode cX8_gives 237 = .ok (.iload 10, 2) := by decide +kernel
theorem dX8_gives_239 : decode cX8_gives 239 = .ok (.iaload, 1) := by decide +kernel
theorem dX8_gives_240 : decode cX8_gives 240 = .ok (.goto 4, 3) := by decide +kernel
theorem dX8_gives_243 : decode cX8_gives 243 = .ok (.iconst 0, 1) := by decide +kernel
theorem dX8_gives_244 : decode cX8_gives 244 = .ok (.iastore, 1) := by decide +kernel
theorem dX8_gives_245 : decode cX8_gives 245 = .ok (.iload 4, 2) := by decide +kernel
theorem dX8_gives_247 : decode cX8_gives 247 = .ok (.aload_n 0, 1) := by decide +kernel
theorem dX8_gives_248 : decode cX8_gives 248 = .ok (.getfield 94, 3) := by decide +kernel
theorem dX8_gives_251 : decode cX8_gives 251 = .ok (.iload 10, 2) := by decide +kernel
theorem dX8_gives_253 : decode cX8_gives 253 = .ok (.iaload, 1) := by decide +kernel
theorem dX8_gives_254 : decode cX8_gives 254 = .ok (.isub, 1) := by decide +kernel
theorem dX8_gives_255 : decode cX8_gives 255 = .ok (.istore 4, 2) := by decide +kernel
theorem dX8_gives_257 : decode cX8_gives 257 = .ok (.iinc 9 1, 3) := by decide +kernel
theorem dX8_gives_260 : decode cX8_gives 260 = .ok (.goto (-95), 3) := by decide +kernel
theorem dX8_gives_263 : decode cX8_gives 263 = .ok (.iload 7, 2) := by decide +kernel
theorem dX8_gives_265 : decode cX8_gives 265 = .ok (.ifCond .eq 116, 3) := by decide +kernel
theorem dX8_gives_268 : decode cX8_gives 268 = .ok (.iload 4, 2) := by decide +kernel
theorem dX8_gives_270 : decode cX8_gives 270 = .ok (.ifCond .le 111, 3) := by decide +kernel
theorem dX8_gives_273 : decode cX8_gives 273 = .ok (.iconst (-1), 1) := by decide +kernel
theorem dX8_gives_274 : decode cX8_gives 274 = .ok (.istore 9, 2) := by decide +kernel
theorem dX8_gives_276 : decode cX8_gives 276 = .ok (.iconst 0, 1) := by decide +kernel
theorem dX8_gives_277 : decode cX8_gives 277 = .ok (.istore 10, 2) := by decide +kernel
theorem dX8_gives_279 : decode cX8_gives 279 = .ok (.iload 10, 2) := by decide +kernel
theorem dX8_gives_281 : decode cX8_gives 281 = .ok (.iload 5, 2) := by decide +kernel
theorem dX8_gives_283 : decode cX8_gives 283 = .ok (.if_icmp .ge 73, 3) := by decide +kernel
theorem dX8_gives_286 : decode cX8_gives 286 = .ok (.aload_n 0, 1) := by decide +kernel
theorem dX8_gives_287 : decode cX8_gives 287 = .ok (.getfield 97, 3) := by decide +kernel
theorem dX8_gives_290 : decode cX8_gives 290 = .ok (.aload_n 0, 1) := by decide +kernel
theorem dX8_gives_291 : decode cX8_gives 291 = .ok (.getfield 91, 3) := by decide +kernel
theorem dX8_gives_294 : decode cX8_gives 294 = .ok (.iload 10, 2) := by decide +kernel
theorem dX8_gives_296 : decode cX8_gives 296 = .ok (.iaload, 1) := by decide +kernel
theorem dX8_gives_297 : decode cX8_gives 297 = .ok (.baload, 1) := by decide +kernel
theorem dX8_gives_298 : decode cX8_gives 298 = .ok (.ifCond .ne 52, 3) := by decide +kernel
theorem dX8_gives_301 : decode cX8_gives 301 = .ok (.iload 9, 2) := by decide +kernel
theorem dX8_gives_303 : decode cX8_gives 303 = .ok (.iconst (-1), 1) := by decide +kernel
theorem dX8_gives_304 : decode cX8_gives 304 = .ok (.if_icmp .eq 37, 3) := by decide +kernel
theorem dX8_gives_307 : decode cX8_gives 307 = .ok (.iload 8, 2) := by decide +kernel
theorem dX8_gives_309 : decode cX8_gives 309 = .ok (.aload_n 0, 1) := by decide +kernel
theorem dX8_gives_310 : decode cX8_gives 310 = .ok (.getfield 47, 3) := by decide +kernel
theorem dX8_gives_313 : decode cX8_gives 313 = .ok (.aload_n 0, 1) := by decide +kernel
theorem dX8_gives_314 : decode cX8_gives 314 = .ok (.getfield 91, 3) := by decide +kernel
theorem dX8_gives_317 : decode cX8_gives 317 = .ok (.iload 10, 2) := by decide +kernel
theorem dX8_gives_319 : decode cX8_gives 319 = .ok (.iaload, 1) := by decide +kernel
theorem dX8_gives_320 : decode cX8_gives 320 = .ok (.iaload, 1) := by decide +kernel
theorem dX8_gives_321 : decode cX8_gives 321 = .ok (.imul, 1) := by decide +kernel
theorem dX8_gives_322 : decode cX8_gives 322 = .ok (.iload 6, 2) := by decide +kernel
theorem dX8_gives_324 : decode cX8_gives 324 = .ok (.irem, 1) := by decide +kernel
theorem dX8_gives_325 : decode cX8_gives 325 = .ok (.iload 8, 2) := by decide +kernel
theorem dX8_gives_327 : decode cX8_gives 327 = .ok (.aload_n 0, 1) := by decide +kernel
theorem dX8_gives_328 : decode cX8_gives 328 = .ok (.getfield 47, 3) := by decide +kernel
theorem dX8_gives_331 : decode cX8_gives 331 = .ok (.iload 9, 2) := by decide +kernel
theorem dX8_gives_333 : decode cX8_gives 333 = .ok (.iaload, 1) := by decide +kernel
theorem dX8_gives_334 : decode cX8_gives 334 = .ok (.imul, 1) := by decide +kernel
theorem dX8_gives_335 : decode cX8_gives 335 = .ok (.iload 6, 2) := by decide +kernel
theorem dX8_gives_337 : decode cX8_gives 337 = .ok (.irem, 1) := by decide +kernel
theorem dX8_gives_338 : decode cX8_gives 338 = .ok (.if_icmp .le 12, 3) := by decide +kernel
theorem dX8_gives_341 : decode cX8_gives 341 = .ok (.aload_n 0, 1) := by decide +kernel
theorem dX8_gives_342 : decode cX8_gives 342 = .ok (.getfield 91, 3) := by decide +kernel
theorem dX8_gives_345 : decode cX8_gives 345 = .ok (.iload 10, 2) := by decide +kernel
theorem dX8_gives_347 : decode cX8_gives 347 = .ok (.iaload, 1) := by decide +kernel
theorem dX8_gives_348 : decode cX8_gives 348 = .ok (.istore 9, 2) := by decide +kernel
theorem dX8_gives_350 : decode cX8_gives 350 = .ok (.iinc 10 1, 3) := by decide +kernel
theorem dX8_gives_353 : decode cX8_gives 353 = .ok (.goto (-74), 3) := by decide +kernel
theorem dX8_gives_356 : decode cX8_gives 356 = .ok (.aload_n 0, 1) := by decide +kernel
theorem dX8_gives_357 : decode cX8_gives 357 = .ok (.getfield 97, 3) := by decide +kernel
theorem dX8_gives_360 : decode cX8_gives 360 = .ok (.iload 9, 2) := by decide +kernel
theorem dX8_gives_362 : decode cX8_gives 362 = .ok (.iconst 1, 1) := by decide +kernel
theorem dX8_gives_363 : decode cX8_gives 363 = .ok (.bastore, 1) := by decide +kernel
theorem dX8_gives_364 : decode cX8_gives 364 = .ok (.aload_n 0, 1) := by decide +kernel
theorem dX8_gives_365 : decode cX8_gives 365 = .ok (.getfield 94, 3) := by decide +kernel
theorem dX8_gives_368 : decode cX8_gives 368 = .ok (.iload 9, 2) := by decide +kernel
theorem dX8_gives_370 : decode cX8_gives 370 = .ok (.dup2, 1) := by decide +kernel
theorem dX8_gives_371 : decode cX8_gives 371 = .ok (.iaload, 1) := by decide +kernel
theorem dX8_gives_372 : decode cX8_gives 372 = .ok (.iconst 1, 1) := by decide +kernel
theorem dX8_gives_373 : decode cX8_gives 373 = .ok (.iadd, 1) := by decide +kernel
theorem dX8_gives_374 : decode cX8_gives 374 = .ok (.iastore, 1) := by decide +kernel
theorem dX8_gives_375 : decode cX8_gives 375 = .ok (.iinc 4 (-1), 3) := by decide +kernel
theorem dX8_gives_378 : decode cX8_gives 378 = .ok (.goto (-115), 3) := by decide +kernel
theorem dX8_gives_381 : decode cX8_gives 381 = .ok (.iconst 0, 1) := by decide +kernel
theorem dX8_gives_382 : decode cX8_gives 382 = .ok (.istore 9, 2) := by decide +kernel
theorem dX8_gives_384 : decode cX8_gives 384 = .ok (.iconst 0, 1) := by decide +kernel
theorem dX8_gives_385 : decode cX8_gives 385 = .ok (.istore 10, 2) := by decide +kernel
theorem dX8_gives_387 : decode cX8_gives 387 = .ok (.iload 10, 2) := by decide +kernel
theorem dX8_gives_389 : decode cX8_gives 389 = .ok (.iload 5, 2) := by decide +kernel
theorem dX8_gives_391 : decode cX8_gives 391 = .ok (.if_icmp .ge 26, 3) := by decide +kernel
theorem dX8_gives_394 : decode cX8_gives 394 = .ok (.iload 9, 2) := by decide +kernel
theorem dX8_gives_396 : decode cX8_gives 396 = .ok (.aload_n 0, 1) := by decide +kernel
theorem dX8_gives_397 : decode cX8_gives 397 = .ok (.getfield 94, 3) := by decide +kernel
theorem dX8_gives_400 : decode cX8_gives 400 = .ok (.aload_n 0, 1) := by decide +kernel
theorem dX8_gives_401 : decode cX8_gives 401 = .ok (.getfield 91, 3) := by decide +kernel
theorem dX8_gives_404 : decode cX8_gives 404 = .ok (.iload 10, 2) := by decide +kernel
theorem dX8_gives_406 : decode cX8_gives 406 = .ok (.iaload, 1) := by decide +kernel
theorem dX8_gives_407 : decode cX8_gives 407 = .ok (.iaload, 1) := by decide +kernel
theorem dX8_gives_408 : decode cX8_gives 408 = .ok (.iadd, 1) := by decide +kernel
theorem dX8_gives_409 : decode cX8_gives 409 = .ok (.istore 9, 2) := by decide +kernel
theorem dX8_gives_411 : decode cX8_gives 411 = .ok (.iinc 10 1, 3) := by decide +kernel
theorem dX8_gives_414 : decode cX8_gives 414 = .ok (.goto (-27), 3) := by decide +kernel
theorem dX8_gives_417 : decode cX8_gives 417 = .ok (.iload 9, 2) := by decide +kernel
theorem dX8_gives_419 : decode cX8_gives 419 = .ok (.ireturn, 1) := by decide +kernel
theorem dX8_flows_0 : decode cX8_flows 0 = .ok (.iconst 0, 1) := by decide +kernel
theorem dX8_flows_1 : decode cX8_flows 1 = .ok (.istore 6, 2) := by decide +kernel
theorem dX8_flows_3 : decode cX8_flows 3 = .ok (.iconst 0, 1) := by decide +kernel
theorem dX8_flows_4 : decode cX8_flows 4 = .ok (.istore 7, 2) := by decide +kernel
theorem dX8_flows_6 : decode cX8_flows 6 = .ok (.iconst 0, 1) := by decide +kernel
theorem dX8_flows_7 : decode cX8_flows 7 = .ok (.istore 8, 2) := by decide +kernel
theorem dX8_flows_9 : decode cX8_flows 9 = .ok (.iconst 0, 1) := by decide +kernel
theorem dX8_flows_10 : decode cX8_flows 10 = .ok (.istore 9, 2) := by decide +kernel
theorem dX8_flows_12 : decode cX8_flows 12 = .ok (.iload 9, 2) := by decide +kernel
theorem dX8_flows_14 : decode cX8_flows 14 = .ok (.aload_n 0, 1) := by decide +kernel
theorem dX8_flows_15 : decode cX8_flows 15 = .ok (.getfield 118, 3) := by decide +kernel
theorem dX8_flows_18 : decode cX8_flows 18 = .ok (.if_icmp .ge 471, 3) := by decide +kernel
theorem dX8_flows_21 : decode cX8_flows 21 = .ok (.aload_n 1, 1) := by decide +kernel
theorem dX8_flows_22 : decode cX8_flows 22 = .ok (.iload 9, 2) := by decide +kernel
theorem dX8_flows_24 : decode cX8_flows 24 = .ok (.iaload, 1) := by decide +kernel
theorem dX8_flows_25 : decode cX8_flows 25 = .ok (.iload 4, 2) := by decide +kernel
theorem dX8_flows_27 : decode cX8_flows 27 = .ok (.aload_n 0, 1) := by decide +kernel
theorem dX8_flows_28 : decode cX8_flows 28 = .ok (.getfield 7, 3) := by decide +kernel
theorem dX8_flows_31 : decode cX8_flows 31 = .ok (.iload 9, 2) := by decide +kernel
theorem dX8_flows_33 : decode cX8_flows 33 = .ok (.iaload, 1) := by decide +kernel
theorem dX8_flows_34 : decode cX8_flows 34 = .ok (.imul, 1) := by decide +kernel
theorem dX8_flows_35 : decode cX8_flows 35 = .ok (.iadd, 1) := by decide +kernel
theorem dX8_flows_36 : decode cX8_flows 36 = .ok (.iload 6, 2) := by decide +kernel
theorem dX8_flows_38 : decode cX8_flows 38 = .ok (.iadd, 1) := by decide +kernel
theorem dX8_flows_39 : decode cX8_flows 39 = .ok (.istore 10, 2) := by decide +kernel
theorem dX8_flows_41 : decode cX8_flows 41 = .ok (.iload 10, 2) := by decide +kernel
theorem dX8_flows_43 : decode cX8_flows 43 = .ok (.bipush 50, 2) := by decide +kernel
theorem dX8_flows_45 : decode cX8_flows 45 = .ok (.idiv, 1) := by decide +kernel
theorem dX8_flows_46 : decode cX8_flows 46 = .ok (.istore 11, 2) := by decide +kernel
theorem dX8_flows_48 : decode cX8_flows 48 = .ok (.iload 10, 2) := by decide +kernel
theorem dX8_flows_50 : decode cX8_flows 50 = .ok (.iload 11, 2) := by decide +kernel
theorem dX8_flows_52 : decode cX8_flows 52 = .ok (.isub, 1) := by decide +kernel
theorem dX8_flows_53 : decode cX8_flows 53 = .ok (.istore 10, 2) := by decide +kernel
theorem dX8_flows_55 : decode cX8_flows 55 = .ok (.aload_n 0, 1) := by decide +kernel
theorem dX8_flows_56 : decode cX8_flows 56 = .ok (.iload 9, 2) := by decide +kernel
theorem dX8_flows_58 : decode cX8_flows 58 = .ok (.iload 10, 2) := by decide +kernel
theorem dX8_flows_60 : decode cX8_flows 60 = .ok (.aload_n 3, 1) := by decide +kernel
theorem dX8_flows_61 : decode cX8_flows 61 = .ok (.iload 9, 2) := by decide +kernel
theorem dX8_flows_63 : decode cX8_flows 63 = .ok (.iaload, 1) := by decide +kernel
theorem dX8_flows_64 : decode cX8_flows 64 = .ok (.invokevirtual 213, 3) := by decide +kernel
theorem dX8_flows_67 : decode cX8_flows 67 = .ok (.istore 12, 2) := by decide +kernel
theorem dX8_flows_69 : decode cX8_flows 69 = .ok (.iload 10, 2) := by decide +kernel
theorem dX8_flows_71 : decode cX8_flows 71 = .ok (.iload 12, 2) := by decide +kernel
theorem dX8_flows_73 : decode cX8_flows 73 = .ok (.isub, 1) := by decide +kernel
theorem dX8_flows_74 : decode cX8_flows 74 = .ok (.istore 10, 2) := by decide +kernel
theorem dX8_flows_76 : decode cX8_flows 76 = .ok (.iconst 0, 1) := by decide +kernel
theorem dX8_flows_77 : decode cX8_flows 77 = .ok (.iload 10, 2) := by decide +kernel
theorem dX8_flows_79 : decode cX8_flows 79 = .ok (.aload_n 0, 1) := by decide +kernel
theorem dX8_flows_80 : decode cX8_flows 80 = .ok (.iload 9, 2) := by decide +kernel
theorem dX8_flows_82 : decode cX8_flows 82 = .ok (.aload_n 2, 1) := by decide +kernel
theorem dX8_flows_83 : decode cX8_flows 83 = .ok (.iload 9, 2) := by decide +kernel
theorem dX8_flows_85 : decode cX8_flows 85 = .ok (.baload, 1) := by decide +kernel
theorem dX8_flows_86 : decode cX8_flows 86 = .ok (.invokevirtual 132, 3) := by decide +kernel
theorem dX8_flows_89 : decode cX8_flows 89 = .ok (.isub, 1) := by decide +kernel
theorem dX8_flows_90 : decode cX8_flows 90 = .ok (.invokestatic 115, 3) := by decide +kernel
theorem dX8_flows_93 : decode cX8_flows 93 = .ok (.istore 13, 2) := by decide +kernel
theorem dX8_flows_95 : decode cX8_flows 95 = .ok (.iload 10, 2) := by decide +kernel
theorem dX8_flows_97 : decode cX8_flows 97 = .ok (.iload 13, 2) := by decide +kernel
theorem dX8_flows_99 : decode cX8_flows 99 = .ok (.isub, 1) := by decide +kernel
theorem dX8_flows_100 : decode cX8_flows 100 = .ok (.istore 10, 2) := by decide +kernel
theorem dX8_flows_102 : decode cX8_flows 102 = .ok (.aload_n 2, 1) := by decide +kernel
theorem dX8_flows_103 : decode cX8_flows 103 = .ok (.iload 9, 2) := by decide +kernel
theorem dX8_flows_105 : decode cX8_flows 105 = .ok (.baload, 1) := by decide +kernel
theorem dX8_flows_106 : decode cX8_flows 106 = .ok (.ifCond .ne 19, 3) := by decide +kernel
theorem dX8_flows_109 : decode cX8_flows 109 = .ok (.iload 13, 2) := by decide +kernel
theorem dX8_flows_111 : decode cX8_flows 111 = .ok (.aload_n 0, 1) := by decide +kernel
theorem dX8_flows_112 : decode cX8_flows 112 = .ok (.getfield 16, 3) := by decide +kernel
theorem dX8_flows_115 : decode cX8_flows 115 = .ok (.iload 9, 2) := by decide +kernel
theorem dX8_flows_117 : decode cX8_flows 117 = .ok (.iaload, 1) := by decide +kernel
theorem dX8_flows_118 : decode cX8_flows 118 = .ok (.if_icmp .le 7, 3) := by decide +kernel
theorem dX8_flows_121 : decode cX8_flows 121 = .ok (.iconst 1, 1) := by decide +kernel
theorem dX8_flows_122 : decode cX8_flows 122 = .ok (.goto 4, 3) := by decide +kernel
theorem dX8_flows_125 : decode cX8_flows 125 = .ok (.iconst 0, 1) := by decide +kernel
theorem dX8_flows_126 : decode cX8_flows 126 = .ok (.istore 14, 2) := by decide +kernel
theorem dX8_flows_128 : decode cX8_flows 128 = .ok (.iload 14, 2) := by decide +kernel
theorem dX8_flows_130 : decode cX8_flows 130 = .ok (.ifCond .eq 18, 3) := by decide +kernel
theorem dX8_flows_133 : decode cX8_flows 133 = .ok (.aload_n 2, 1) := by decide +kernel
theorem dX8_flows_134 : decode cX8_flows 134 = .ok (.iload 9, 2) := by decide +kernel
theorem dX8_flows_136 : decode cX8_flows 136 = .ok (.iconst 1, 1) := by decide +kernel
theorem dX8_flows_137 : decode cX8_flows 137 = .ok (.bastore, 1) := by decide +kernel
theorem dX8_flows_138 : decode cX8_flows 138 = .ok (.iload 13, 2) := by decide +kernel
theorem dX8_flows_140 : decode cX8_flows 140 = .ok (.iload 10, 2) := by decide +kernel
theorem dX8_flows_142 : decode cX8_flows 142 = .ok (.iadd, 1) := by decide +kernel
theorem dX8_flows_143 : decode cX8_flows 143 = .ok (.istore 13, 2) := by decide +kernel
theorem dX8_flows_145 : decode cX8_flows 145 = .ok (.iconst 0, 1) := by decide +kernel
theorem dX8_flows_146 : decode cX8_flows 146 = .ok (.istore 10, 2) := by decide +kernel
theorem dX8_flows_148 : decode cX8_flows 148 = .ok (.aload_n 1, 1) := by decide +kernel
theorem dX8_flows_149 : decode cX8_flows 149 = .ok (.iload 9, 2) := by decide +kernel
theorem dX8_flows_151 : decode cX8_flows 151 = .ok (.iload 10, 2) := by decide +kernel
theorem dX8_flows_153 : decode cX8_flows 153 = .ok (.iastore, 1) := by decide +kernel
theorem dX8_flows_154 : decode cX8_flows 154 = .ok (.iload 12, 2) := by decide +kernel
theorem dX8_flows_156 : decode cX8_flows 156 = .ok (.iconst 2, 1) := by decide +kernel
theorem dX8_flows_157 : decode cX8_flows 157 = .ok (.idiv, 1) := by decide +kernel
theorem dX8_flows_158 : decode cX8_flows 158 = .ok (.iload 13, 2) := by decide +kernel
theorem dX8_flows_160 : decode cX8_flows 160 = .ok (.iadd, 1) := by decide +kernel
theorem dX8_flows_161 : decode cX8_flows 161 = .ok (.istore 6, 2) := by decide +kernel
theorem dX8_flows_163 : decode cX8_flows 163 = .ok (.iconst 0, 1) := by decide +kernel
theorem dX8_flows_164 : decode cX8_flows 164 = .ok (.istore 15, 2) := by decide +kernel
theorem dX8_flows_166 : decode cX8_flows 166 = .ok (.iload 15, 2) := by decide +kernel
theorem dX8_flows_168 : decode cX8_flows 168 = .ok (.aload_n 0, 1) := by decide +kernel
theorem dX8_flows_169 : decode cX8_flows 169 = .ok (.getfield 139, 3) := by decide +kernel
theorem dX8_flows_172 : decode cX8_flows 172 = .ok (.if_icmp .ge 50, 3) := by decide +kernel
theorem dX8_flows_175 : decode cX8_flows 175 = .ok (.aload_n 0, 1) := by decide +kernel
theorem dX8_flows_176 : decode cX8_flows 176 = .ok (.getfield 41, 3) := by decide +kernel
theorem dX8_flows_179 : decode cX8_flows 179 = .ok (.iload 15, 2) := by decide +kernel
theorem dX8_flows_181 : decode cX8_flows 181 = .ok (.iaload, 1) := by decide +kernel
theorem dX8_flows_182 : decode cX8_flows 182 = .ok (.iload 9, 2) := by decide +kernel
theorem dX8_flows_184 : decode cX8_flows 184 = .ok (.if_icmp .ne 32, 3) := by decide +kernel
theorem dX8_flows_187 : decode cX8_flows 187 = .ok (.aload_n 0, 1) := by decide +kernel
theorem dX8_flows_188 : decode cX8_flows 188 = .ok (.getfield 94, 3) := by decide +kernel
theorem dX8_flows_191 : decode cX8_flows 191 = .ok (.iload 15, 2) := by decide +kernel
theorem dX8_flows_193 : decode cX8_flows 193 = .ok (.iaload, 1) := by decide +kernel
theorem dX8_flows_194 : decode cX8_flows 194 = .ok (.aload_n 0, 1) := by decide +kernel
theorem dX8_flows_195 : decode cX8_flows 195 = .ok (.getfield 47, 3) := by decide +kernel
theorem dX8_flows_198 : decode cX8_flows 198 = .ok (.iload 15, 2) := by decide +kernel
theorem dX8_flows_200 : decode cX8_flows 200 = .ok (.iaload, 1) := by decide +kernel
theorem dX8_flows_201 : decode cX8_flows 201 = .ok (.if_icmp .ne 15, 3) := by decide +kernel
theorem dX8_flows_204 : decode cX8_flows 204 = .ok (.iload 7, 2) := by decide +kernel
theorem dX8_flows_206 : decode cX8_flows 206 = .ok (.aload_n 0, 1) := by decide +kernel
theorem dX8_flows_207 : decode cX8_flows 207 = .ok (.getfield 47, 3) := by decide +kernel
theorem dX8_flows_210 : decode cX8_flows 210 = .ok (.iload 15, 2) := by decide +kernel
theorem dX8_flows_212 : decode cX8_flows 212 = .ok (.iaload, 1) := by decide +kernel
theorem dX8_flows_213 : decode cX8_flows 213 = .ok (.iadd, 1) := by decide +kernel
theorem dX8_flows_214 : decode cX8_flows 214 = .ok (.istore 7, 2) := by decide +kernel
theorem dX8_flows_216 : decode cX8_flows 216 = .ok (.iinc 15 1, 3) := by decide +kernel
theorem dX8_flows_219 : decode cX8_flows 219 = .ok (.goto (-53), 3) := by decide +kernel
theorem dX8_flows_222 : decode cX8_flows 222 = .ok (.iload 5, 2) := by decide +kernel
theorem dX8_flows_224 : decode cX8_flows 224 = .ok (.ifCond .ne 6, 3) := by decide +kernel
theorem dX8_flows_227 : decode cX8_flows 227 = .ok (.goto 256, 3) := by decide +kernel
theorem dX8_flows_230 : decode cX8_flows 230 = .ok (.aload_n 0, 1) := by decide +kernel
theorem dX8_flows_231 : decode cX8_flows 231 = .ok (.getfield 28, 3) := by decide +kernel
theorem dX8_flows_234 : decode cX8_flows 234 = .ok (.iload 9, 2) := by decide +kernel
theorem dX8_flows_236 : decode cX8_flows 236 = .ok (.iload 12, 2) := by decide +kernel
theorem dX8_flows_238 : decode cX8_flows 238 = .ok (.iastore, 1) := by decide +kernel
theorem dX8_flows_239 : decode cX8_flows 239 = .ok (.aload_n 0, 1) := by decide +kernel
theorem dX8_flows_240 : decode cX8_flows 240 = .ok (.getfield 31, 3) := by decide +kernel
theorem dX8_flows_243 : decode cX8_flows 243 = .ok (.iload 9, 2) := by decide +kernel
theorem dX8_flows_245 : decode cX8_flows 245 = .ok (.iload 13, 2) := by decide +kernel
theorem dX8_flows_247 : decode cX8_flows 247 = .ok (.iastore, 1) := by decide +kernel
theorem dX8_flows_248 : decode cX8_flows 248 = .ok (.aload_n 0, 1) := by decide +kernel
theorem dX8_flows_249 : decode cX8_flows 249 = .ok (.dup, 1) := by decide +kernel
theorem dX8_flows_250 : decode cX8_flows 250 = .ok (.getfield 217, 3) := by decide +kernel
theorem dX8_flows_253 : decode cX8_flows 253 = .ok (.iload 11, 2) := by decide +kernel
theorem dX8_flows_255 : decode cX8_flows 255 = .ok (.iadd, 1) := by decide +kernel
theorem dX8_flows_256 : decode cX8_flows 256 = .ok (.putfield 217, 3) := by decide +kernel
theorem dX8_flows_259 : decode cX8_flows 259 = .ok (.aload_n 0, 1) := by decide +kernel
theorem dX8_flows_260 : decode cX8_flows 260 = .ok (.dup, 1) := by decide +kernel
theorem dX8_flows_261 : decode cX8_flows 261 = .ok (.getfield 220, 3) := by decide +kernel
theorem dX8_flows_264 : decode cX8_flows 264 = .ok (.iload 12, 2) := by decide +kernel
theorem dX8_flows_266 : decode cX8_flows 266 = .ok (.iload 12, 2) := by decide +kernel
theorem dX8_flows_268 : decode cX8_flows 268 = .ok (.iconst 2, 1) := by decide +kernel
theorem dX8_flows_269 : decode cX8_flows 269 = .ok (.idiv, 1) := by decide +kernel
theorem dX8_flows_270 : decode cX8_flows 270 = .ok (.isub, 1) := by decide +kernel
theorem dX8_flows_271 : decode cX8_flows 271 = .ok (.iadd, 1) := by decide +kernel
theorem dX8_flows_272 : decode cX8_flows 272 = .ok (.putfield 220, 3) := by decide +kernel
theorem dX8_flows_275 : decode cX8_flows 275 = .ok (.aload_n 0, 1) := by decide +kernel
theorem dX8_flows_276 : decode cX8_flows 276 = .ok (.dup, 1) := by decide +kernel
theorem dX8_flows_277 : decode cX8_flows 277 = .ok (.getfield 223, 3) := by decide +kernel
theorem dX8_flows_280 : decode cX8_flows 280 = .ok (.iload 4, 2) := by decide +kernel
theorem dX8_flows_282 : decode cX8_flows 282 = .ok (.aload_n 0, 1) := by decide +kernel
theorem dX8_flows_283 : decode cX8_flows 283 = .ok (.getfield 7, 3) := by decide +kernel
theorem dX8_flows_286 : decode cX8_flows 286 = .ok (.iload 9, 2) := by decide +kernel
theorem dX8_flows_288 : decode cX8_flows 288 = .ok (.iaload, 1) := by decide +kernel
theorem dX8_flows_289 : decode cX8_flows 289 = .ok (.imul, 1) := by decide +kernel
theorem dX8_flows_290 : decode cX8_flows 290 = .ok (.iadd, 1) := by decide +kernel
theorem dX8_flows_291 : decode cX8_flows 291 = .ok (.putfield 223, 3) := by decide +kernel
theorem dX8_flows_294 : decode cX8_flows 294 = .ok (.iconst 0, 1) := by decide +kernel
theorem dX8_flows_295 : decode cX8_flows 295 = .ok (.istore 15, 2) := by decide +kernel
theorem dX8_flows_297 : decode cX8_flows 297 = .ok (.iload 15, 2) := by decide +kernel
theorem dX8_flows_299 : decode cX8_flows 299 = .ok (.aload_n 0, 1) := by decide +kernel
theorem dX8_flows_300 : decode cX8_flows 300 = .ok (.getfield 139, 3) := by decide +kernel
theorem dX8_flows_303 : decode cX8_flows 303 = .ok (.if_icmp .ge 133, 3) := by decide +kernel
theorem dX8_flows_306 : decode cX8_flows 306 = .ok (.aload_n 0, 1) := by decide +kernel
theorem dX8_flows_307 : decode cX8_flows 307 = .ok (.getfield 41, 3) := by decide +kernel
theorem dX8_flows_310 : decode cX8_flows 310 = .ok (.iload 15, 2) := by decide +kernel
theorem dX8_flows_312 : decode cX8_flows 312 = .ok (.iaload, 1) := by decide +kernel
theorem dX8_flows_313 : decode cX8_flows 313 = .ok (.iload 9, 2) := by decide +kernel
theorem dX8_flows_315 : decode cX8_flows 315 = .ok (.if_icmp .eq 6, 3) := by decide +kernel
theorem dX8_flows_318 : decode cX8_flows 318 = .ok (.goto 112, 3) := by decide +kernel
theorem dX8_flows_321 : decode cX8_flows 321 = .ok (.aload_n 0, 1) := by decide +kernel
theorem dX8_flows_322 : decode cX8_flows 322 = .ok (.getfield 59, 3) := by decide +kernel
theorem dX8_flows_325 : decode cX8_flows 325 = .ok (.iload 15, 2) := by decide +kernel
theorem dX8_flows_327 : decode cX8_flows 327 = .ok (.aload_n 0, 1) := by decide +kernel
theorem dX8_flows_328 : decode cX8_flows 328 = .ok (.getfield 94, 3) := by decide +kernel
theorem dX8_flows_331 : decode cX8_flows 331 = .ok (.iload 15, 2) := by decide +kernel
theorem dX8_flows_333 : decode cX8_flows 333 = .ok (.iaload, 1) := by decide +kernel
theorem dX8_flows_334 : decode cX8_flows 334 = .ok (.iastore, 1) := by decide +kernel
theorem dX8_flows_335 : decode cX8_flows 335 = .ok (.aload_n 0, 1) := by decide +kernel
theorem dX8_flows_336 : decode cX8_flows 336 = .ok (.getfield 56, 3) := by decide +kernel
theorem dX8_flows_339 : decode cX8_flows 339 = .ok (.iload 15, 2) := by decide +kernel
theorem dX8_flows_341 : decode cX8_flows 341 = .ok (.dup2, 1) := by decide +kernel
theorem dX8_flows_342 : decode cX8_flows 342 = .ok (.iaload, 1) := by decide +kernel
theorem dX8_flows_343 : decode cX8_flows 343 = .ok (.aload_n 0, 1) := by decide +kernel
theorem dX8_flows_344 : decode cX8_flows 344 = .ok (.getfield 94, 3) := by decide +kernel
theorem dX8_flows_347 : decode cX8_flows 347 = .ok (.iload 15, 2) := by decide +kernel
theorem dX8_flows_349 : decode cX8_flows 349 = .ok (.iaload, 1) := by decide +kernel
theorem dX8_flows_350 : decode cX8_flows 350 = .ok (.iadd, 1) := by decide +kernel
theorem dX8_flows_351 : decode cX8_flows 351 = .ok (.iastore, 1) := by decide +kernel
theorem dX8_flows_352 : decode cX8_flows 352 = .ok (.aload_n 0, 1) := by decide +kernel
theorem dX8_flows_353 : decode cX8_flows 353 = .ok (.getfield 53, 3) := by decide +kernel
theorem dX8_flows_356 : decode cX8_flows 356 = .ok (.iload 15, 2) := by decide +kernel
theorem dX8_flows_358 : decode cX8_flows 358 = .ok (.dup2, 1) := by decide +kernel
theorem dX8_flows_359 : decode cX8_flows 359 = .ok (.iaload, 1) := by decide +kernel
theorem dX8_flows_360 : decode cX8_flows 360 = .ok (.aload_n 0, 1) := by decide +kernel
theorem dX8_flows_361 : decode cX8_flows 361 = .ok (.getfield 94, 3) := by decide +kernel
theorem dX8_flows_364 : decode cX8_flows 364 = .ok (.iload 15, 2) := by decide +kernel
theorem dX8_flows_366 : decode cX8_flows 366 = .ok (.iaload, 1) := by decide +kernel
theorem dX8_flows_367 : decode cX8_flows 367 = .ok (.aload_n 0, 1) := by decide +kernel
theorem dX8_flows_368 : decode cX8_flows 368 = .ok (.getfield 47, 3) := by decide +kernel
theorem dX8_flows_371 : decode cX8_flows 371 = .ok (.iload 15, 2) := by decide +kernel
theorem dX8_flows_373 : decode cX8_flows 373 = .ok (.iaload, 1) := by decide +kernel
theorem dX8_flows_374 : decode cX8_flows 374 = .ok (.if_icmp .ne 7, 3) := by decide +kernel
theorem dX8_flows_377 : decode cX8_flows 377 = .ok (.iconst 1, 1) := by decide +kernel
theorem dX8_flows_378 : decode cX8_flows 378 = .ok (.goto 4, 3) := by decide +kernel
theorem dX8_flows_381 : decode cX8_flows 381 = .ok (.iconst 0, 1) := by decide +kernel
theorem dX8_flows_382 : decode cX8_flows 382 = .ok (.invokestatic 198, 3) := by decide +kernel
theorem dX8_flows_385 : decode cX8_flows 385 = .ok (.iadd, 1) := by decide +kernel
theorem dX8_flows_386 : decode cX8_flows 386 = .ok (.iastore, 1) := by decide +kernel
theorem dX8_flows_387 : decode cX8_flows 387 = .ok (.aload_n 0, 1) := by decide +kernel
theorem dX8_flows_388 : decode cX8_flows 388 = .ok (.getfield 65, 3) := by decide +kernel
theorem dX8_flows_391 : decode cX8_flows 391 = .ok (.aload_n 0, 1) := by decide +kernel
theorem dX8_flows_392 : decode cX8_flows 392 = .ok (.getfield 50, 3) := by decide +kernel
theorem dX8_flows_395 : decode cX8_flows 395 = .ok (.iload 15, 2) := by decide +kernel
theorem dX8_flows_397 : decode cX8_flows 397 = .ok (.iaload, 1) := by decide +kernel
theorem dX8_flows_398 : decode cX8_flows 398 = .ok (.dup2, 1) := by decide +kernel
theorem dX8_flows_399 : decode cX8_flows 399 = .ok (.iaload, 1) := by decide +kernel
theorem dX8_flows_400 : decode cX8_flows 400 = .ok (.aload_n 0, 1) := by decide +kernel
theorem dX8_flows_401 : decode cX8_flows 401 = .ok (.getfield 94, 3) := by decide +kernel
theorem dX8_flows_404 : decode cX8_flows 404 = .ok (.iload 15, 2) := by decide +kernel
theorem dX8_flows_406 : decode cX8_flows 406 = .ok (.iaload, 1) := by decide +kernel
theorem dX8_flows_407 : decode cX8_flows 407 = .ok (.aload_n 0, 1) := by decide +kernel
theorem dX8_flows_408 : decode cX8_flows 408 = .ok (.getfield 47, 3) := by decide +kernel
theorem dX8_flows_411 : decode cX8_flows 411 = .ok (.iload 15, 2) := by decide +kernel
theorem dX8_flows_413 : decode cX8_flows 413 = .ok (.iaload, 1) := by decide +kernel
theorem dX8_flows_414 : decode cX8_flows 414 = .ok (.if_icmp .ne 13, 3) := by decide +kernel
theorem dX8_flows_417 : decode cX8_flows 417 = .ok (.aload_n 0, 1) := by decide +kernel
theorem dX8_flows_418 : decode cX8_flows 418 = .ok (.getfield 47, 3) := by decide +kernel
theorem dX8_flows_421 : decode cX8_flows 421 = .ok (.iload 15, 2) := by decide +kernel
theorem dX8_flows_423 : decode cX8_flows 423 = .ok (.iaload, 1) := by decide +kernel
theorem dX8_flows_424 : decode cX8_flows 424 = .ok (.goto 4, 3) := by decide +kernel
theorem dX8_flows_427 : decode cX8_flows 427 = .ok (.iconst 0, 1) := by decide +kernel
theorem dX8_flows_428 : decode cX8_flows 428 = .ok (.iadd, 1) := by decide +kernel
theorem dX8_flows_429 : decode cX8_flows 429 = .ok (.iastore, 1) := by decide +kernel
theorem dX8_flows_430 : decode cX8_flows 430 = .ok (.iinc 15 1, 3) := by decide +kernel
theorem dX8_flows_433 : decode cX8_flows 433 = .ok (.goto (-136), 3) := by decide +kernel
theorem dX8_flows_436 : decode cX8_flows 436 = .ok (.iload 14, 2) := by decide +kernel
theorem dX8_flows_438 : decode cX8_flows 438 = .ok (.ifCond .ne 6, 3) := by decide +kernel
theorem dX8_flows_441 : decode cX8_flows 441 = .ok (.goto 42, 3) := by decide +kernel
theorem dX8_flows_444 : decode cX8_flows 444 = .ok (.aload_n 0, 1) := by decide +kernel
theorem dX8_flows_445 : decode cX8_flows 445 = .ok (.getfield 34, 3) := by decide +kernel
theorem dX8_flows_448 : decode cX8_flows 448 = .ok (.iload 9, 2) := by decide +kernel
theorem dX8_flows_450 : decode cX8_flows 450 = .ok (.aload_n 0, 1) := by decide +kernel
theorem dX8_flows_451 : decode cX8_flows 451 = .ok (.getfield 129, 3) := by decide +kernel
theorem dX8_flows_454 : decode cX8_flows 454 = .ok (.iastore, 1) := by decide +kernel
theorem dX8_flows_455 : decode cX8_flows 455 = .ok (.iload 8, 2) := by decide +kernel
theorem dX8_flows_457 : decode cX8_flows 457 = .ok (.ifCond .ne 9, 3) := by decide +kernel
theorem dX8_flows_460 : decode cX8_flows 460 = .ok (.aload_n 0, 1) := by decide +kernel
theorem dX8_flows_461 : decode cX8_flows 461 = .ok (.iload 9, 2) := by decide +kernel
theorem dX8_flows_463 : decode cX8_flows 463 = .ok (.putfield 68, 3) := by decide +kernel
theorem dX8_flows_466 : decode cX8_flows 466 = .ok (.iinc 8 1, 3) := by decide +kernel
theorem dX8_flows_469 : decode cX8_flows 469 = .ok (.aload_n 0, 1) := by decide +kernel
theorem dX8_flows_470 : decode cX8_flows 470 = .ok (.iload 8, 2) := by decide +kernel
theorem dX8_flows_472 : decode cX8_flows 472 = .ok (.putfield 72, 3) := by decide +kernel
theorem dX8_flows_475 : decode cX8_flows 475 = .ok (.aload_n 0, 1) := by decide +kernel
theorem dX8_flows_476 : decode cX8_flows 476 = .ok (.aload_n 0, 1) := by decide +kernel
theorem dX8_flows_477 : decode cX8_flows 477 = .ok (.getfield 129, 3) := by decide +kernel
theorem dX8_flows_480 : decode cX8_flows 480 = .ok (.putfield 75, 3) := by decide +kernel
theorem dX8_flows_483 : decode cX8_flows 483 = .ok (.iinc 9 1, 3) := by decide +kernel
theorem dX8_flows_486 : decode cX8_flows 486 = .ok (.goto (-474), 3) := by decide +kernel
theorem dX8_flows_489 : decode cX8_flows 489 = .ok (.iload 5, 2) := by decide +kernel
theorem dX8_flows_491 : decode cX8_flows 491 = .ok (.ifCond .eq 14, 3) := by decide +kernel
theorem dX8_flows_494 : decode cX8_flows 494 = .ok (.aload_n 0, 1) := by decide +kernel
theorem dX8_flows_495 : decode cX8_flows 495 = .ok (.dup, 1) := by decide +kernel
theorem dX8_flows_496 : decode cX8_flows 496 = .ok (.getfield 226, 3) := by decide +kernel
theorem dX8_flows_499 : decode cX8_flows 499 = .ok (.iload 6, 2) := by decide +kernel
theorem dX8_flows_501 : decode cX8_flows 501 = .ok (.iadd, 1) := by decide +kernel
theorem dX8_flows_502 : decode cX8_flows 502 = .ok (.putfield 226, 3) := by decide +kernel
theorem dX8_flows_505 : decode cX8_flows 505 = .ok (.iload 7, 2) := by decide +kernel
theorem dX8_flows_507 : decode cX8_flows 507 = .ok (.ireturn, 1) := by decide +kernel
theorem dX8_day_0 : decode cX8_day 0 = .ok (.iload_n 1, 1) := by decide +kernel
theorem dX8_day_1 : decode cX8_day 1 = .ok (.iconst (-1), 1) := by decide +kernel
theorem dX8_day_2 : decode cX8_day 2 = .ok (.bipush 50, 2) := by decide +kernel
theorem dX8_day_4 : decode cX8_day 4 = .ok (.invokestatic 121, 3) := by decide +kernel
theorem dX8_day_7 : decode cX8_day 7 = .ok (.ifCond .eq 13, 3) := by decide +kernel
theorem dX8_day_10 : decode cX8_day 10 = .ok (.aload_n 0, 1) := by decide +kernel
theorem dX8_day_11 : decode cX8_day 11 = .ok (.getfield 129, 3) := by decide +kernel
theorem dX8_day_14 : decode cX8_day 14 = .ok (.sipush 1000, 3) := by decide +kernel
theorem dX8_day_17 : decode cX8_day 17 = .ok (.if_icmp .ne 5, 3) := by decide +kernel
theorem dX8_day_20 : decode cX8_day 20 = .ok (.iconst (-1), 1) := by decide +kernel
theorem dX8_day_21 : decode cX8_day 21 = .ok (.ireturn, 1) := by decide +kernel
theorem dX8_day_22 : decode cX8_day 22 = .ok (.iload_n 1, 1) := by decide +kernel
theorem dX8_day_23 : decode cX8_day 23 = .ok (.iconst (-1), 1) := by decide +kernel
theorem dX8_day_24 : decode cX8_day 24 = .ok (.if_icmp .eq 8, 3) := by decide +kernel
theorem dX8_day_27 : decode cX8_day 27 = .ok (.aload_n 0, 1) := by decide +kernel
theorem dX8_day_28 : decode cX8_day 28 = .ok (.iload_n 1, 1) := by decide +kernel
theorem dX8_day_29 : decode cX8_day 29 = .ok (.putfield 229, 3) := by decide +kernel
theorem dX8_day_32 : decode cX8_day 32 = .ok (.iconst 0, 1) := by decide +kernel
theorem dX8_day_33 : decode cX8_day 33 = .ok (.istore_n 2, 1) := by decide +kernel
theorem dX8_day_34 : decode cX8_day 34 = .ok (.iload_n 2, 1) := by decide +kernel
theorem dX8_day_35 : decode cX8_day 35 = .ok (.aload_n 0, 1) := by decide +kernel
theorem dX8_day_36 : decode cX8_day 36 = .ok (.getfield 118, 3) := by decide +kernel
theorem dX8_day_39 : decode cX8_day 39 = .ok (.if_icmp .ge 52, 3) := by decide +kernel
theorem dX8_day_42 : decode cX8_day 42 = .ok (.aload_n 0, 1) := by decide +kernel
theorem dX8_day_43 : decode cX8_day 43 = .ok (.getfield 129, 3) := by decide +kernel
theorem dX8_day_46 : decode cX8_day 46 = .ok (.iconst 1, 1) := by decide +kernel
theorem dX8_day_47 : decode cX8_day 47 = .ok (.iadd, 1) := by decide +kernel
theorem dX8_day_48 : decode cX8_day 48 = .ok (.bipush 100, 2) := by decide +kernel
theorem dX8_day_50 : decode cX8_day 50 = .ok (.irem, 1) := by decide +kernel
theorem dX8_day_51 : decode cX8_day 51 = .ok (.ifCond .ne 34, 3) := by decide +kernel
theorem dX8_day_54 : decode cX8_day 54 = .ok (.aload_n 0, 1) := by decide +kernel
theorem dX8_day_55 : decode cX8_day 55 = .ok (.getfield 25, 3) := by decide +kernel
theorem dX8_day_58 : decode cX8_day 58 = .ok (.iload_n 2, 1) := by decide +kernel
theorem dX8_day_59 : decode cX8_day 59 = .ok (.aload_n 0, 1) := by decide +kernel
theorem dX8_day_60 : decode cX8_day 60 = .ok (.getfield 13, 3) := by decide +kernel
theorem dX8_day_63 : decode cX8_day 63 = .ok (.iload_n 2, 1) := by decide +kernel
theorem dX8_day_64 : decode cX8_day 64 = .ok (.iaload, 1) := by decide +kernel
theorem dX8_day_65 : decode cX8_day 65 = .ok (.aload_n 0, 1) := by decide +kernel
theorem dX8_day_66 : decode cX8_day 66 = .ok (.getfield 25, 3) := by decide +kernel
theorem dX8_day_69 : decode cX8_day 69 = .ok (.iload_n 2, 1) := by decide +kernel
theorem dX8_day_70 : decode cX8_day 70 = .ok (.iaload, 1) := by decide +kernel
theorem dX8_day_71 : decode cX8_day 71 = .ok (.aload_n 0, 1) := by decide +kernel
theorem dX8_day_72 : decode cX8_day 72 = .ok (.getfield 13, 3) := by decide +kernel
theorem dX8_day_75 : decode cX8_day 75 = .ok (.iload_n 2, 1) := by decide +kernel
theorem dX8_day_76 : decode cX8_day 76 = .ok (.iaload, 1) := by decide +kernel
theorem dX8_day_77 : decode cX8_day 77 = .ok (.bipush 50, 2) := by decide +kernel
theorem dX8_day_79 : decode cX8_day 79 = .ok (.idiv, 1) := by decide +kernel
theorem dX8_day_80 : decode cX8_day 80 = .ok (.iadd, 1) := by decide +kernel
theorem dX8_day_81 : decode cX8_day 81 = .ok (.invokestatic 109, 3) := by decide +kernel
theorem dX8_day_84 : decode cX8_day 84 = .ok (.iastore, 1) := by decide +kernel
theorem dX8_day_85 : decode cX8_day 85 = .ok (.iinc 2 1, 3) := by decide +kernel
theorem dX8_day_88 : decode cX8_day 88 = .ok (.goto (-54), 3) := by decide +kernel
theorem dX8_day_91 : decode cX8_day 91 = .ok (.aload_n 0, 1) := by decide +kernel
theorem dX8_day_92 : decode cX8_day 92 = .ok (.aload_n 0, 1) := by decide +kernel
theorem dX8_day_93 : decode cX8_day 93 = .ok (.getfield 19, 3) := by decide +kernel
theorem dX8_day_96 : decode cX8_day 96 = .ok (.aload_n 0, 1) := by decide +kernel
theorem dX8_day_97 : decode cX8_day 97 = .ok (.getfield 37, 3) := by decide +kernel
theorem dX8_day_100 : decode cX8_day 100 = .ok (.aload_n 0, 1) := by decide +kernel
theorem dX8_day_101 : decode cX8_day 101 = .ok (.getfield 22, 3) := by decide +kernel
theorem dX8_day_104 : decode cX8_day 104 = .ok (.aload_n 0, 1) := by decide +kernel
theorem dX8_day_105 : decode cX8_day 105 = .ok (.getfield 229, 3) := by decide +kernel
theorem dX8_day_108 : decode cX8_day 108 = .ok (.iconst 1, 1) := by decide +kernel
theorem dX8_day_109 : decode cX8_day 109 = .ok (.invokevirtual 232, 3) := by decide +kernel
theorem dX8_day_112 : decode cX8_day 112 = .ok (.pop, 1) := by decide +kernel
theorem dX8_day_113 : decode cX8_day 113 = .ok (.aload_n 0, 1) := by decide +kernel
theorem dX8_day_114 : decode cX8_day 114 = .ok (.dup, 1) := by decide +kernel
theorem dX8_day_115 : decode cX8_day 115 = .ok (.getfield 129, 3) := by decide +kernel
theorem dX8_day_118 : decode cX8_day 118 = .ok (.iconst 1, 1) := by decide +kernel
theorem dX8_day_119 : decode cX8_day 119 = .ok (.iadd, 1) := by decide +kernel
theorem dX8_day_120 : decode cX8_day 120 = .ok (.putfield 129, 3) := by decide +kernel
theorem dX8_day_123 : decode cX8_day 123 = .ok (.aload_n 0, 1) := by decide +kernel
theorem dX8_day_124 : decode cX8_day 124 = .ok (.getfield 129, 3) := by decide +kernel
theorem dX8_day_127 : decode cX8_day 127 = .ok (.ireturn, 1) := by decide +kernel
theorem dX8_told_0 : decode cX8_told 0 = .ok (.aload_n 0, 1) := by decide +kernel
theorem dX8_told_1 : decode cX8_told 1 = .ok (.iload_n 1, 1) := by decide +kernel
theorem dX8_told_2 : decode cX8_told 2 = .ok (.invokevirtual 125, 3) := by decide +kernel
theorem dX8_told_5 : decode cX8_told 5 = .ok (.ifCond .ne 5, 3) := by decide +kernel
theorem dX8_told_8 : decode cX8_told 8 = .ok (.iconst (-1), 1) := by decide +kernel
theorem dX8_told_9 : decode cX8_told 9 = .ok (.ireturn, 1) := by decide +kernel
theorem dX8_told_10 : decode cX8_told 10 = .ok (.iload_n 2, 1) := by decide +kernel
theorem dX8_told_11 : decode cX8_told 11 = .ok (.tableswitch 161 0 11 #[61, 68, 75, 82, 89, 96, 103, 113, 125, 132, 139, 146], 61) := by decide +kernel
theorem dX8_told_72 : decode cX8_told 72 = .ok (.aload_n 0, 1) := by decide +kernel
theorem dX8_told_73 : decode cX8_told 73 = .ok (.getfield 7, 3) := by decide +kernel
theorem dX8_told_76 : decode cX8_told 76 = .ok (.iload_n 1, 1) := by decide +kernel
theorem dX8_told_77 : decode cX8_told 77 = .ok (.iaload, 1) := by decide +kernel
theorem dX8_told_78 : decode cX8_told 78 = .ok (.ireturn, 1) := by decide +kernel
theorem dX8_told_79 : decode cX8_told 79 = .ok (.aload_n 0, 1) := by decide +kernel
theorem dX8_told_80 : decode cX8_told 80 = .ok (.getfield 13, 3) := by decide +kernel
theorem dX8_told_83 : decode cX8_told 83 = .ok (.iload_n 1, 1) := by decide +kernel
theorem dX8_told_84 : decode cX8_told 84 = .ok (.iaload, 1) := by decide +kernel
theorem dX8_told_85 : decode cX8_told 85 = .ok (.ireturn, 1) := by decide +kernel
theorem dX8_told_86 : decode cX8_told 86 = .ok (.aload_n 0, 1) := by decide +kernel
theorem dX8_told_87 : decode cX8_told 87 = .ok (.getfield 16, 3) := by decide +kernel
theorem dX8_told_90 : decode cX8_told 90 = .ok (.iload_n 1, 1) := by decide +kernel
theorem dX8_told_91 : decode cX8_told 91 = .ok (.iaload, 1) := by decide +kernel
theorem dX8_told_92 : decode cX8_told 92 = .ok (.ireturn, 1) := by decide +kernel
theorem dX8_told_93 : decode cX8_told 93 = .ok (.aload_n 0, 1) := by decide +kernel
theorem dX8_told_94 : decode cX8_told 94 = .ok (.getfield 19, 3) := by decide +kernel
theorem dX8_told_97 : decode cX8_told 97 = .ok (.iload_n 1, 1) := by decide +kernel
theorem dX8_told_98 : decode cX8_told 98 = .ok (.iaload, 1) := by decide +kernel
theorem dX8_told_99 : decode cX8_told 99 = .ok (.ireturn, 1) := by decide +kernel
theorem dX8_told_100 : decode cX8_told 100 = .ok (.aload_n 0, 1) := by decide +kernel
theorem dX8_told_101 : decode cX8_told 101 = .ok (.getfield 22, 3) := by decide +kernel
theorem dX8_told_104 : decode cX8_told 104 = .ok (.iload_n 1, 1) := by decide +kernel
theorem dX8_told_105 : decode cX8_told 105 = .ok (.iaload, 1) := by decide +kernel
theorem dX8_told_106 : decode cX8_told 106 = .ok (.ireturn, 1) := by decide +kernel
theorem dX8_told_107 : decode cX8_told 107 = .ok (.aload_n 0, 1) := by decide +kernel
theorem dX8_told_108 : decode cX8_told 108 = .ok (.getfield 25, 3) := by decide +kernel
theorem dX8_told_111 : decode cX8_told 111 = .ok (.iload_n 1, 1) := by decide +kernel
theorem dX8_told_112 : decode cX8_told 112 = .ok (.iaload, 1) := by decide +kernel
theorem dX8_told_113 : decode cX8_told 113 = .ok (.ireturn, 1) := by decide +kernel
theorem dX8_told_114 : decode cX8_told 114 = .ok (.aload_n 0, 1) := by decide +kernel
theorem dX8_told_115 : decode cX8_told 115 = .ok (.getfield 37, 3) := by decide +kernel
theorem dX8_told_118 : decode cX8_told 118 = .ok (.iload_n 1, 1) := by decide +kernel
theorem dX8_told_119 : decode cX8_told 119 = .ok (.baload, 1) := by decide +kernel
theorem dX8_told_120 : decode cX8_told 120 = .ok (.invokestatic 198, 3) := by decide +kernel
theorem dX8_told_123 : decode cX8_told 123 = .ok (.ireturn, 1) := by decide +kernel
theorem dX8_told_124 : decode cX8_told 124 = .ok (.aload_n 0, 1) := by decide +kernel
theorem dX8_told_125 : decode cX8_told 125 = .ok (.iload_n 1, 1) := by decide +kernel
theorem dX8_told_126 : decode cX8_told 126 = .ok (.aload_n 0, 1) := by decide +kernel
theorem dX8_told_127 : decode cX8_told 127 = .ok (.getfield 37, 3) := by decide +kernel
theorem dX8_told_130 : decode cX8_told 130 = .ok (.iload_n 1, 1) := by decide +kernel
theorem dX8_told_131 : decode cX8_told 131 = .ok (.baload, 1) := by decide +kernel
theorem dX8_told_132 : decode cX8_told 132 = .ok (.invokevirtual 132, 3) := by decide +kernel
theorem dX8_told_135 : decode cX8_told 135 = .ok (.ireturn, 1) := by decide +kernel
theorem dX8_told_136 : decode cX8_told 136 = .ok (.aload_n 0, 1) := by decide +kernel
theorem dX8_told_137 : decode cX8_told 137 = .ok (.getfield 28, 3) := by decide +kernel
theorem dX8_told_140 : decode cX8_told 140 = .ok (.iload_n 1, 1) := by decide +kernel
theorem dX8_told_141 : decode cX8_told 141 = .ok (.iaload, 1) := by decide +kernel
theorem dX8_told_142 : decode cX8_told 142 = .ok (.ireturn, 1) := by decide +kernel
theorem dX8_told_143 : decode cX8_told 143 = .ok (.aload_n 0, 1) := by decide +kernel
theorem dX8_told_144 : decode cX8_told 144 = .ok (.getfield 31, 3) := by decide +kernel
theorem dX8_told_147 : decode cX8_told 147 = .ok (.iload_n 1, 1) := by decide +kernel
theorem dX8_told_148 : decode cX8_told 148 = .ok (.iaload, 1) := by decide +kernel
theorem dX8_told_149 : decode cX8_told 149 = .ok (.ireturn, 1) := by decide +kernel
theorem dX8_told_150 : decode cX8_told 150 = .ok (.aload_n 0, 1) := by decide +kernel
theorem dX8_told_151 : decode cX8_told 151 = .ok (.getfield 34, 3) := by decide +kernel
theorem dX8_told_154 : decode cX8_told 154 = .ok (.iload_n 1, 1) := by decide +kernel
theorem dX8_told_155 : decode cX8_told 155 = .ok (.iaload, 1) := by decide +kernel
theorem dX8_told_156 : decode cX8_told 156 = .ok (.ireturn, 1) := by decide +kernel
theorem dX8_told_157 : decode cX8_told 157 = .ok (.aload_n 0, 1) := by decide +kernel
theorem dX8_told_158 : decode cX8_told 158 = .ok (.iload_n 1, 1) := by decide +kernel
theorem dX8_told_159 : decode cX8_told 159 = .ok (.aload_n 0, 1) := by decide +kernel
theorem dX8_told_160 : decode cX8_told 160 = .ok (.getfield 19, 3) := by decide +kernel
theorem dX8_told_163 : decode cX8_told 163 = .ok (.iload_n 1, 1) := by decide +kernel
theorem dX8_told_164 : decode cX8_told 164 = .ok (.iaload, 1) := by decide +kernel
theorem dX8_told_165 : decode cX8_told 165 = .ok (.invokevirtual 210, 3) := by decide +kernel
theorem dX8_told_168 : decode cX8_told 168 = .ok (.invokestatic 198, 3) := by decide +kernel
theorem dX8_told_171 : decode cX8_told 171 = .ok (.ireturn, 1) := by decide +kernel
theorem dX8_told_172 : decode cX8_told 172 = .ok (.iconst (-1), 1) := by decide +kernel
theorem dX8_told_173 : decode cX8_told 173 = .ok (.ireturn, 1) := by decide +kernel
theorem dX8_fieldOf_0 : decode cX8_fieldOf 0 = .ok (.iload_n 1, 1) := by decide +kernel
theorem dX8_fieldOf_1 : decode cX8_fieldOf 1 = .ok (.iconst 0, 1) := by decide +kernel
theorem dX8_fieldOf_2 : decode cX8_fieldOf 2 = .ok (.aload_n 0, 1) := by decide +kernel
theorem dX8_fieldOf_3 : decode cX8_fieldOf 3 = .ok (.getfield 139, 3) := by decide +kernel
theorem dX8_fieldOf_6 : decode cX8_fieldOf 6 = .ok (.iconst 1, 1) := by decide +kernel
theorem dX8_fieldOf_7 : decode cX8_fieldOf 7 = .ok (.isub, 1) := by decide +kernel
theorem dX8_fieldOf_8 : decode cX8_fieldOf 8 = .ok (.invokestatic 121, 3) := by decide +kernel
theorem dX8_fieldOf_11 : decode cX8_fieldOf 11 = .ok (.ifCond .ne 5, 3) := by decide +kernel
theorem dX8_fieldOf_14 : decode cX8_fieldOf 14 = .ok (.iconst (-1), 1) := by decide +kernel
theorem dX8_fieldOf_15 : decode cX8_fieldOf 15 = .ok (.ireturn, 1) := by decide +kernel
theorem dX8_fieldOf_16 : decode cX8_fieldOf 16 = .ok (.iload_n 2, 1) := by decide +kernel
theorem dX8_fieldOf_17 : decode cX8_fieldOf 17 = .ok (.tableswitch 106 0 7 #[47, 54, 61, 68, 75, 85, 92, 99], 47) := by decide +kernel
theorem dX8_fieldOf_64 : decode cX8_fieldOf 64 = .ok (.aload_n 0, 1) := by decide +kernel
theorem dX8_fieldOf_65 : decode cX8_fieldOf 65 = .ok (.getfield 41, 3) := by decide +kernel
theorem dX8_fieldOf_68 : decode cX8_fieldOf 68 = .ok (.iload_n 1, 1) := by decide +kernel
theorem dX8_fieldOf_69 : decode cX8_fieldOf 69 = .ok (.iaload, 1) := by decide +kernel
theorem dX8_fieldOf_70 : decode cX8_fieldOf 70 = .ok (.ireturn, 1) := by decide +kernel
theorem dX8_fieldOf_71 : decode cX8_fieldOf 71 = .ok (.aload_n 0, 1) := by decide +kernel
theorem dX8_fieldOf_72 : decode cX8_fieldOf 72 = .ok (.getfield 44, 3) := by decide +kernel
theorem dX8_fieldOf_75 : decode cX8_fieldOf 75 = .ok (.iload_n 1, 1) := by decide +kernel
theorem dX8_fieldOf_76 : decode cX8_fieldOf 76 = .ok (.iaload, 1) := by decide +kernel
theorem dX8_fieldOf_77 : decode cX8_fieldOf 77 = .ok (.ireturn, 1) := by decide +kernel
theorem dX8_fieldOf_78 : decode cX8_fieldOf 78 = .ok (.aload_n 0, 1) := by decide +kernel
theorem dX8_fieldOf_79 : decode cX8_fieldOf 79 = .ok (.getfield 47, 3) := by decide +kernel
theorem dX8_fieldOf_82 : decode cX8_fieldOf 82 = .ok (.iload_n 1, 1) := by decide +kernel
theorem dX8_fieldOf_83 : decode cX8_fieldOf 83 = .ok (.iaload, 1) := by decide +kernel
theorem dX8_fieldOf_84 : decode cX8_fieldOf 84 = .ok (.ireturn, 1) := by decide +kernel
theorem dX8_fieldOf_85 : decode cX8_fieldOf 85 = .ok (.aload_n 0, 1) := by decide +kernel
theorem dX8_fieldOf_86 : decode cX8_fieldOf 86 = .ok (.getfield 50, 3) := by decide +kernel
theorem dX8_fieldOf_89 : decode cX8_fieldOf 89 = .ok (.iload_n 1, 1) := by decide +kernel
theorem dX8_fieldOf_90 : decode cX8_fieldOf 90 = .ok (.iaload, 1) := by decide +kernel
theorem dX8_fieldOf_91 : decode cX8_fieldOf 91 = .ok (.ireturn, 1) := by decide +kernel
theorem dX8_fieldOf_92 : decode cX8_fieldOf 92 = .ok (.aload_n 0, 1) := by decide +kernel
theorem dX8_fieldOf_93 : decode cX8_fieldOf 93 = .ok (.getfield 62, 3) := by decide +kernel
theorem dX8_fieldOf_96 : decode cX8_fieldOf 96 = .ok (.iload_n 1, 1) := by decide +kernel
theorem dX8_fieldOf_97 : decode cX8_fieldOf 97 = .ok (.baload, 1) := by decide +kernel
theorem dX8_fieldOf_98 : decode cX8_fieldOf 98 = .ok (.invokestatic 198, 3) := by decide +kernel
theorem dX8_fieldOf_101 : decode cX8_fieldOf 101 = .ok (.ireturn, 1) := by decide +kernel
theorem dX8_fieldOf_102 : decode cX8_fieldOf 102 = .ok (.aload_n 0, 1) := by decide +kernel
theorem dX8_fieldOf_103 : decode cX8_fieldOf 103 = .ok (.getfield 53, 3) := by decide +kernel
theorem dX8_fieldOf_106 : decode cX8_fieldOf 106 = .ok (.iload_n 1, 1) := by decide +kernel
theorem dX8_fieldOf_107 : decode cX8_fieldOf 107 = .ok (.iaload, 1) := by decide +kernel
theorem dX8_fieldOf_108 : decode cX8_fieldOf 108 = .ok (.ireturn, 1) := by decide +kernel
theorem dX8_fieldOf_109 : decode cX8_fieldOf 109 = .ok (.aload_n 0, 1) := by decide +kernel
theorem dX8_fieldOf_110 : decode cX8_fieldOf 110 = .ok (.getfield 56, 3) := by decide +kernel
theorem dX8_fieldOf_113 : decode cX8_fieldOf 113 = .ok (.iload_n 1, 1) := by decide +kernel
theorem dX8_fieldOf_114 : decode cX8_fieldOf 114 = .ok (.iaload, 1) := by decide +kernel
theorem dX8_fieldOf_115 : decode cX8_fieldOf 115 = .ok (.ireturn, 1) := by decide +kernel
theorem dX8_fieldOf_116 : decode cX8_fieldOf 116 = .ok (.aload_n 0, 1) := by decide +kernel
theorem dX8_fieldOf_117 : decode cX8_fieldOf 117 = .ok (.getfield 59, 3) := by decide +kernel
theorem dX8_fieldOf_120 : decode cX8_fieldOf 120 = .ok (.iload_n 1, 1) := by decide +kernel
theorem dX8_fieldOf_121 : decode cX8_fieldOf 121 = .ok (.iaload, 1) := by decide +kernel
theorem dX8_fieldOf_122 : decode cX8_fieldOf 122 = .ok (.ireturn, 1) := by decide +kernel
theorem dX8_fieldOf_123 : decode cX8_fieldOf 123 = .ok (.iconst (-1), 1) := by decide +kernel
theorem dX8_fieldOf_124 : decode cX8_fieldOf 124 = .ok (.ireturn, 1) := by decide +kernel
theorem dX8_owner_0 : decode cX8_owner 0 = .ok (.iload_n 1, 1) := by decide +kernel
theorem dX8_owner_1 : decode cX8_owner 1 = .ok (.iconst 0, 1) := by decide +kernel
theorem dX8_owner_2 : decode cX8_owner 2 = .ok (.bipush 9, 2) := by decide +kernel
theorem dX8_owner_4 : decode cX8_owner 4 = .ok (.invokestatic 121, 3) := by decide +kernel
theorem dX8_owner_7 : decode cX8_owner 7 = .ok (.ifCond .eq 12, 3) := by decide +kernel
theorem dX8_owner_10 : decode cX8_owner 10 = .ok (.aload_n 0, 1) := by decide +kernel
theorem dX8_owner_11 : decode cX8_owner 11 = .ok (.getfield 65, 3) := by decide +kernel
theorem dX8_owner_14 : decode cX8_owner 14 = .ok (.iload_n 1, 1) := by decide +kernel
theorem dX8_owner_15 : decode cX8_owner 15 = .ok (.iaload, 1) := by decide +kernel
theorem dX8_owner_16 : decode cX8_owner 16 = .ok (.goto 4, 3) := by decide +kernel
theorem dX8_owner_19 : decode cX8_owner 19 = .ok (.iconst (-1), 1) := by decide +kernel
theorem dX8_owner_20 : decode cX8_owner 20 = .ok (.ireturn, 1) := by decide +kernel
theorem dX8_tries_0 : decode cX8_tries 0 = .ok (.iconst 0, 1) := by decide +kernel
theorem dX8_tries_1 : decode cX8_tries 1 = .ok (.istore_n 3, 1) := by decide +kernel
theorem dX8_tries_2 : decode cX8_tries 2 = .ok (.iload_n 3, 1) := by decide +kernel
theorem dX8_tries_3 : decode cX8_tries 3 = .ok (.aload_n 0, 1) := by decide +kernel
theorem dX8_tries_4 : decode cX8_tries 4 = .ok (.getfield 118, 3) := by decide +kernel
theorem dX8_tries_7 : decode cX8_tries 7 = .ok (.if_icmp .ge 33, 3) := by decide +kernel
theorem dX8_tries_10 : decode cX8_tries 10 = .ok (.aload_n 0, 1) := by decide +kernel
theorem dX8_tries_11 : decode cX8_tries 11 = .ok (.getfield 100, 3) := by decide +kernel
theorem dX8_tries_14 : decode cX8_tries 14 = .ok (.iload_n 3, 1) := by decide +kernel
theorem dX8_tries_15 : decode cX8_tries 15 = .ok (.aload_n 0, 1) := by decide +kernel
theorem dX8_tries_16 : decode cX8_tries 16 = .ok (.getfield 19, 3) := by decide +kernel
theorem dX8_tries_19 : decode cX8_tries 19 = .ok (.iload_n 3, 1) := by decide +kernel
theorem dX8_tries_20 : decode cX8_tries 20 = .ok (.iaload, 1) := by decide +kernel
theorem dX8_tries_21 : decode cX8_tries 21 = .ok (.iastore, 1) := by decide +kernel
theorem dX8_tries_22 : decode cX8_tries 22 = .ok (.aload_n 0, 1) := by decide +kernel
theorem dX8_tries_23 : decode cX8_tries 23 = .ok (.getfield 106, 3) := by decide +kernel
theorem dX8_tries_26 : decode cX8_tries 26 = .ok (.iload_n 3, 1) := by decide +kernel
theorem dX8_tries_27 : decode cX8_tries 27 = .ok (.aload_n 0, 1) := by decide +kernel
theorem dX8_tries_28 : decode cX8_tries 28 = .ok (.getfield 37, 3) := by decide +kernel
theorem dX8_tries_31 : decode cX8_tries 31 = .ok (.iload_n 3, 1) := by decide +kernel
theorem dX8_tries_32 : decode cX8_tries 32 = .ok (.baload, 1) := by decide +kernel
theorem dX8_tries_33 : decode cX8_tries 33 = .ok (.bastore, 1) := by decide +kernel
theorem dX8_tries_34 : decode cX8_tries 34 = .ok (.iinc 3 1, 3) := by decide +kernel
theorem dX8_tries_37 : decode cX8_tries 37 = .ok (.goto (-35), 3) := by decide +kernel
theorem dX8_tries_40 : decode cX8_tries 40 = .ok (.iconst 0, 1) := by decide +kernel
theorem dX8_tries_41 : decode cX8_tries 41 = .ok (.istore_n 3, 1) := by decide +kernel
theorem dX8_tries_42 : decode cX8_tries 42 = .ok (.iconst 0, 1) := by decide +kernel
theorem dX8_tries_43 : decode cX8_tries 43 = .ok (.istore 4, 2) := by decide +kernel
theorem dX8_tries_45 : decode cX8_tries 45 = .ok (.iload 4, 2) := by decide +kernel
theorem dX8_tries_47 : decode cX8_tries 47 = .ok (.iload_n 1, 1) := by decide +kernel
theorem dX8_tries_48 : decode cX8_tries 48 = .ok (.if_icmp .ge 30, 3) := by decide +kernel
theorem dX8_tries_51 : decode cX8_tries 51 = .ok (.iload_n 3, 1) := by decide +kernel
theorem dX8_tries_52 : decode cX8_tries 52 = .ok (.aload_n 0, 1) := by decide +kernel
theorem dX8_tries_53 : decode cX8_tries 53 = .ok (.aload_n 0, 1) := by decide +kernel
theorem dX8_tries_54 : decode cX8_tries 54 = .ok (.getfield 100, 3) := by decide +kernel
theorem dX8_tries_57 : decode cX8_tries 57 = .ok (.aload_n 0, 1) := by decide +kernel
theorem dX8_tries_58 : decode cX8_tries 58 = .ok (.getfield 106, 3) := by decide +kernel
theorem dX8_tries_61 : decode cX8_tries 61 = .ok (.aload_n 0, 1) := by decide +kernel
theorem dX8_tries_62 : decode cX8_tries 62 = .ok (.getfield 103, 3) := by decide +kernel
theorem dX8_tries_65 : decode cX8_tries 65 = .ok (.iload_n 2, 1) := by decide +kernel
theorem dX8_tries_66 : decode cX8_tries 66 = .ok (.iconst 0, 1) := by decide +kernel
theorem dX8_tries_67 : decode cX8_tries 67 = .ok (.invokevirtual 232, 3) := by decide +kernel
theorem dX8_tries_70 : decode cX8_tries 70 = .ok (.iadd, 1) := by decide +kernel
theorem dX8_tries_71 : decode cX8_tries 71 = .ok (.istore_n 3, 1) := by decide +kernel
theorem dX8_tries_72 : decode cX8_tries 72 = .ok (.iinc 4 1, 3) := by decide +kernel
theorem dX8_tries_75 : decode cX8_tries 75 = .ok (.goto (-30), 3) := by decide +kernel
theorem dX8_tries_78 : decode cX8_tries 78 = .ok (.iload_n 3, 1) := by decide +kernel
theorem dX8_tries_79 : decode cX8_tries 79 = .ok (.ireturn, 1) := by decide +kernel
theorem dX8_openings_0 : decode cX8_openings 0 = .ok (.iconst 0, 1) := by decide +kernel
theorem dX8_openings_1 : decode cX8_openings 1 = .ok (.istore_n 1, 1) := by decide +kernel
theorem dX8_openings_2 : decode cX8_openings 2 = .ok (.iload_n 1, 1) := by decide +kernel
theorem dX8_openings_3 : decode cX8_openings 3 = .ok (.aload_n 0, 1) := by decide +kernel
theorem dX8_openings_4 : decode cX8_openings 4 = .ok (.getfield 118, 3) := by decide +kernel
theorem dX8_openings_7 : decode cX8_openings 7 = .ok (.if_icmp .ge 21, 3) := by decide +kernel
theorem dX8_openings_10 : decode cX8_openings 10 = .ok (.aload_n 0, 1) := by decide +kernel
theorem dX8_openings_11 : decode cX8_openings 11 = .ok (.getfield 103, 3) := by decide +kernel
theorem dX8_openings_14 : decode cX8_openings 14 = .ok (.iload_n 1, 1) := by decide +kernel
theorem dX8_openings_15 : decode cX8_openings 15 = .ok (.aload_n 0, 1) := by decide +kernel
theorem dX8_openings_16 : decode cX8_openings 16 = .ok (.getfield 22, 3) := by decide +kernel
theorem dX8_openings_19 : decode cX8_openings 19 = .ok (.iload_n 1, 1) := by decide +kernel
theorem dX8_openings_20 : decode cX8_openings 20 = .ok (.iaload, 1) := by decide +kernel
theorem dX8_openings_21 : decode cX8_openings 21 = .ok (.iastore, 1) := by decide +kernel
theorem dX8_openings_22 : decode cX8_openings 22 = .ok (.iinc 1 1, 3) := by decide +kernel
theorem dX8_openings_25 : decode cX8_openings 25 = .ok (.goto (-23), 3) := by decide +kernel
theorem dX8_openings_28 : decode cX8_openings 28 = .ok (.return_, 1) := by decide +kernel
theorem dX8_isTrial_0 : decode cX8_isTrial 0 = .ok (.iload_n 0, 1) := by decide +kernel
theorem dX8_isTrial_1 : decode cX8_isTrial 1 = .ok (.iconst 1, 1) := by decide +kernel
theorem dX8_isTrial_2 : decode cX8_isTrial 2 = .ok (.bipush 10, 2) := by decide +kernel
theorem dX8_isTrial_4 : decode cX8_isTrial 4 = .ok (.invokestatic 121, 3) := by decide +kernel
theorem dX8_isTrial_7 : decode cX8_isTrial 7 = .ok (.ifCond .eq 17, 3) := by decide +kernel
theorem dX8_isTrial_10 : decode cX8_isTrial 10 = .ok (.iload_n 1, 1) := by decide +kernel
theorem dX8_isTrial_11 : decode cX8_isTrial 11 = .ok (.iconst 0, 1) := by decide +kernel
theorem dX8_isTrial_12 : decode cX8_isTrial 12 = .ok (.bipush 50, 2) := by decide +kernel
theorem dX8_isTrial_14 : decode cX8_isTrial 14 = .ok (.invokestatic 121, 3) := by decide +kernel
theorem dX8_isTrial_17 : decode cX8_isTrial 17 = .ok (.ifCond .eq 7, 3) := by decide +kernel
theorem dX8_isTrial_20 : decode cX8_isTrial 20 = .ok (.iconst 1, 1) := by decide +kernel
theorem dX8_isTrial_21 : decode cX8_isTrial 21 = .ok (.goto 4, 3) := by decide +kernel
theorem dX8_isTrial_24 : decode cX8_isTrial 24 = .ok (.iconst 0, 1) := by decide +kernel
theorem dX8_isTrial_25 : decode cX8_isTrial 25 = .ok (.ireturn, 1) := by decide +kernel
theorem dX8_tried_0 : decode cX8_tried 0 = .ok (.aload_n 0, 1) := by decide +kernel
theorem dX8_tried_1 : decode cX8_tried 1 = .ok (.iload_n 1, 1) := by decide +kernel
theorem dX8_tried_2 : decode cX8_tried 2 = .ok (.invokevirtual 125, 3) := by decide +kernel
theorem dX8_tried_5 : decode cX8_tried 5 = .ok (.ifCond .eq 11, 3) := by decide +kernel
theorem dX8_tried_8 : decode cX8_tried 8 = .ok (.iload_n 2, 1) := by decide +kernel
theorem dX8_tried_9 : decode cX8_tried 9 = .ok (.iload_n 3, 1) := by decide +kernel
theorem dX8_tried_10 : decode cX8_tried 10 = .ok (.invokestatic 236, 3) := by decide +kernel
theorem dX8_tried_13 : decode cX8_tried 13 = .ok (.ifCond .ne 5, 3) := by decide +kernel
theorem dX8_tried_16 : decode cX8_tried 16 = .ok (.iconst (-1), 1) := by decide +kernel
theorem dX8_tried_17 : decode cX8_tried 17 = .ok (.ireturn, 1) := by decide +kernel
theorem dX8_tried_18 : decode cX8_tried 18 = .ok (.aload_n 0, 1) := by decide +kernel
theorem dX8_tried_19 : decode cX8_tried 19 = .ok (.invokevirtual 239, 3) := by decide +kernel
theorem dX8_tried_22 : decode cX8_tried 22 = .ok (.aload_n 0, 1) := by decide +kernel
theorem dX8_tried_23 : decode cX8_tried 23 = .ok (.iload_n 2, 1) := by decide +kernel
theorem dX8_tried_24 : decode cX8_tried 24 = .ok (.iload_n 3, 1) := by decide +kernel
theorem dX8_tried_25 : decode cX8_tried 25 = .ok (.invokevirtual 242, 3) := by decide +kernel
theorem dX8_tried_28 : decode cX8_tried 28 = .ok (.pop, 1) := by decide +kernel
theorem dX8_tried_29 : decode cX8_tried 29 = .ok (.aload_n 0, 1) := by decide +kernel
theorem dX8_tried_30 : decode cX8_tried 30 = .ok (.getfield 100, 3) := by decide +kernel
theorem dX8_tried_33 : decode cX8_tried 33 = .ok (.iload_n 1, 1) := by decide +kernel
theorem dX8_tried_34 : decode cX8_tried 34 = .ok (.iaload, 1) := by decide +kernel
theorem dX8_tried_35 : decode cX8_tried 35 = .ok (.ireturn, 1) := by decide +kernel
theorem dX8_lost_0 : decode cX8_lost 0 = .ok (.aload_n 0, 1) := by decide +kernel
theorem dX8_lost_1 : decode cX8_lost 1 = .ok (.iload_n 1, 1) := by decide +kernel
theorem dX8_lost_2 : decode cX8_lost 2 = .ok (.invokevirtual 125, 3) := by decide +kernel
theorem dX8_lost_5 : decode cX8_lost 5 = .ok (.ifCond .eq 25, 3) := by decide +kernel
theorem dX8_lost_8 : decode cX8_lost 8 = .ok (.aload_n 0, 1) := by decide +kernel
theorem dX8_lost_9 : decode cX8_lost 9 = .ok (.iload_n 2, 1) := by decide +kernel
theorem dX8_lost_10 : decode cX8_lost 10 = .ok (.invokevirtual 125, 3) := by decide +kernel
theorem dX8_lost_13 : decode cX8_lost 13 = .ok (.ifCond .eq 17, 3) := by decide +kernel
theorem dX8_lost_16 : decode cX8_lost 16 = .ok (.iload_n 1, 1) := by decide +kernel
theorem dX8_lost_17 : decode cX8_lost 17 = .ok (.iload_n 2, 1) := by decide +kernel
theorem dX8_lost_18 : decode cX8_lost 18 = .ok (.if_icmp .ge 12, 3) := by decide +kernel
theorem dX8_lost_21 : decode cX8_lost 21 = .ok (.iload_n 3, 1) := by decide +kernel
theorem dX8_lost_22 : decode cX8_lost 22 = .ok (.iload 4, 2) := by decide +kernel
theorem dX8_lost_24 : decode cX8_lost 24 = .ok (.invokestatic 236, 3) := by decide +kernel
theorem dX8_lost_27 : decode cX8_lost 27 = .ok (.ifCond .ne 6, 3) := by decide +kernel
theorem dX8_lost_30 : decode cX8_lost 30 = .ok (.ldc 245, 2) := by decide +kernel
theorem dX8_lost_32 : decode cX8_lost 32 = .ok (.ireturn, 1) := by decide +kernel
theorem dX8_lost_33 : decode cX8_lost 33 = .ok (.aload_n 0, 1) := by decide +kernel
theorem dX8_lost_34 : decode cX8_lost 34 = .ok (.invokevirtual 239, 3) := by decide +kernel
theorem dX8_lost_37 : decode cX8_lost 37 = .ok (.aload_n 0, 1) := by decide +kernel
theorem dX8_lost_38 : decode cX8_lost 38 = .ok (.iload_n 3, 1) := by decide +kernel
theorem dX8_lost_39 : decode cX8_lost 39 = .ok (.iload 4, 2) := by decide +kernel
theorem dX8_lost_41 : decode cX8_lost 41 = .ok (.invokevirtual 242, 3) := by decide +kernel
theorem dX8_lost_44 : decode cX8_lost 44 = .ok (.pop, 1) := by decide +kernel
theorem dX8_lost_45 : decode cX8_lost 45 = .ok (.aload_n 0, 1) := by decide +kernel
theorem dX8_lost_46 : decode cX8_lost 46 = .ok (.getfield 100, 3) := by decide +kernel
theorem dX8_lost_49 : decode cX8_lost 49 = .ok (.iload_n 2, 1) := by decide +kernel
theorem dX8_lost_50 : decode cX8_lost 50 = .ok (.iaload, 1) := by decide +kernel
theorem dX8_lost_51 : decode cX8_lost 51 = .ok (.istore 5, 2) := by decide +kernel
theorem dX8_lost_53 : decode cX8_lost 53 = .ok (.aload_n 0, 1) := by decide +kernel
theorem dX8_lost_54 : decode cX8_lost 54 = .ok (.getfield 103, 3) := by decide +kernel
theorem dX8_lost_57 : decode cX8_lost 57 = .ok (.iload_n 1, 1) := by decide +kernel
theorem dX8_lost_58 : decode cX8_lost 58 = .ok (.iconst 0, 1) := by decide +kernel
theorem dX8_lost_59 : decode cX8_lost 59 = .ok (.iastore, 1) := by decide +kernel
theorem dX8_lost_60 : decode cX8_lost 60 = .ok (.aload_n 0, 1) := by decide +kernel
theorem dX8_lost_61 : decode cX8_lost 61 = .ok (.iload_n 3, 1) := by decide +kernel
theorem dX8_lost_62 : decode cX8_lost 62 = .ok (.iload 4, 2) := by decide +kernel
theorem dX8_lost_64 : decode cX8_lost 64 = .ok (.invokevirtual 242, 3) := by decide +kernel
theorem dX8_lost_67 : decode cX8_lost 67 = .ok (.pop, 1) := by decide +kernel
theorem dX8_lost_68 : decode cX8_lost 68 = .ok (.aload_n 0, 1) := by decide +kernel
theorem dX8_lost_69 : decode cX8_lost 69 = .ok (.getfield 100, 3) := by decide +kernel
theorem dX8_lost_72 : decode cX8_lost 72 = .ok (.iload_n 2, 1) := by decide +kernel
theorem dX8_lost_73 : decode cX8_lost 73 = .ok (.iaload, 1) := by decide +kernel
theorem dX8_lost_74 : decode cX8_lost 74 = .ok (.iload 5, 2) := by decide +kernel
theorem dX8_lost_76 : decode cX8_lost 76 = .ok (.isub, 1) := by decide +kernel
theorem dX8_lost_77 : decode cX8_lost 77 = .ok (.ireturn, 1) := by decide +kernel
theorem dX8_most_0 : decode cX8_most 0 = .ok (.iload_n 2, 1) := by decide +kernel
theorem dX8_most_1 : decode cX8_most 1 = .ok (.iconst 1, 1) := by decide +kernel
theorem dX8_most_2 : decode cX8_most 2 = .ok (.iconst 3, 1) := by decide +kernel
theorem dX8_most_3 : decode cX8_most 3 = .ok (.invokestatic 121, 3) := by decide +kernel
theorem dX8_most_6 : decode cX8_most 6 = .ok (.ifCond .eq 36, 3) := by decide +kernel
theorem dX8_most_9 : decode cX8_most 9 = .ok (.iload_n 1, 1) := by decide +kernel
theorem dX8_most_10 : decode cX8_most 10 = .ok (.iconst 0, 1) := by decide +kernel
theorem dX8_most_11 : decode cX8_most 11 = .ok (.aload_n 0, 1) := by decide +kernel
theorem dX8_most_12 : decode cX8_most 12 = .ok (.getfield 118, 3) := by decide +kernel
theorem dX8_most_15 : decode cX8_most 15 = .ok (.iload_n 2, 1) := by decide +kernel
theorem dX8_most_16 : decode cX8_most 16 = .ok (.isub, 1) := by decide +kernel
theorem dX8_most_17 : decode cX8_most 17 = .ok (.invokestatic 121, 3) := by decide +kernel
theorem dX8_most_20 : decode cX8_most 20 = .ok (.ifCond .eq 22, 3) := by decide +kernel
theorem dX8_most_23 : decode cX8_most 23 = .ok (.iload_n 3, 1) := by decide +kernel
theorem dX8_most_24 : decode cX8_most 24 = .ok (.iload 4, 2) := by decide +kernel
theorem dX8_most_26 : decode cX8_most 26 = .ok (.invokestatic 236, 3) := by decide +kernel
theorem dX8_most_29 : decode cX8_most 29 = .ok (.ifCond .eq 13, 3) := by decide +kernel
theorem dX8_most_32 : decode cX8_most 32 = .ok (.iload 5, 2) := by decide +kernel
theorem dX8_most_34 : decode cX8_most 34 = .ok (.iconst 0, 1) := by decide +kernel
theorem dX8_most_35 : decode cX8_most 35 = .ok (.iload_n 2, 1) := by decide +kernel
theorem dX8_most_36 : decode cX8_most 36 = .ok (.invokestatic 121, 3) := by decide +kernel
theorem dX8_most_39 : decode cX8_most 39 = .ok (.ifCond .ne 5, 3) := by decide +kernel
theorem dX8_most_42 : decode cX8_most 42 = .ok (.iconst (-1), 1) := by decide +kernel
theorem dX8_most_43 : decode cX8_most 43 = .ok (.ireturn, 1) := by decide +kernel
theorem dX8_most_44 : decode cX8_most 44 = .ok (.aload_n 0, 1) := by decide +kernel
theorem dX8_most_45 : decode cX8_most 45 = .ok (.invokevirtual 239, 3) := by decide +kernel
theorem dX8_most_48 : decode cX8_most 48 = .ok (.iload_n 2, 1) := by decide +kernel
theorem dX8_most_49 : decode cX8_most 49 = .ok (.iconst 1, 1) := by decide +kernel
theorem dX8_most_50 : decode cX8_most 50 = .ok (.if_icmp .ne 7, 3) := by decide +kernel
theorem dX8_most_53 : decode cX8_most 53 = .ok (.iconst 5, 1) := by decide +kernel
theorem dX8_most_54 : decode cX8_most 54 = .ok (.goto 15, 3) := by decide +kernel
theorem dX8_most_57 : decode cX8_most 57 = .ok (.iload_n 2, 1) := by decide +kernel
theorem dX8_most_58 : decode cX8_most 58 = .ok (.iconst 2, 1) := by decide +kernel
theorem dX8_most_59 : decode cX8_most 59 = .ok (.if_icmp .ne 8, 3) := by decide +kernel
theorem dX8_most_62 : decode cX8_most 62 = .ok (.bipush 25, 2) := by decide +kernel
theorem dX8_most_64 : decode cX8_most 64 = .ok (.goto 5, 3) := by decide +kernel
theorem dX8_most_67 : decode cX8_most 67 = .ok (.bipush 125, 2) := by decide +kernel
theorem dX8_most_69 : decode cX8_most 69 = .ok (.istore 6, 2) := by decide +kernel
theorem dX8_most_71 : decode cX8_most 71 = .ok (.iconst (-1), 1) := by decide +kernel
theorem dX8_most_72 : decode cX8_most 72 = .ok (.istore 7, 2) := by decide +kernel
theorem dX8_most_74 : decode cX8_most 74 = .ok (.iconst 0, 1) := by decide +kernel
theorem dX8_most_75 : decode cX8_most 75 = .ok (.istore 8, 2) := by decide +kernel
theorem dX8_most_77 : decode cX8_most 77 = .ok (.iconst 0, 1) := by decide +kernel
theorem dX8_most_78 : decode cX8_most 78 = .ok (.istore 9, 2) := by decide +kernel
theorem dX8_most_80 : decode cX8_most 80 = .ok (.iload 9, 2) := by decide +kernel
theorem dX8_most_82 : decode cX8_most 82 = .ok (.iload 6, 2) := by decide +kernel
theorem dX8_most_84 : decode cX8_most 84 = .ok (.if_icmp .ge 83, 3) := by decide +kernel
theorem dX8_most_87 : decode cX8_most 87 = .ok (.iload 9, 2) := by decide +kernel
theorem dX8_most_89 : decode cX8_most 89 = .ok (.istore 10, 2) := by decide +kernel
theorem dX8_most_91 : decode cX8_most 91 = .ok (.iload_n 2, 1) := by decide +kernel
theorem dX8_most_92 : decode cX8_most 92 = .ok (.iconst 1, 1) := by decide +kernel
theorem dX8_most_93 : decode cX8_most 93 = .ok (.isub, 1) := by decide +kernel
theorem dX8_most_94 : decode cX8_most 94 = .ok (.istore 11, 2) := by decide +kernel
theorem dX8_most_96 : decode cX8_most 96 = .ok (.iload 11, 2) := by decide +kernel
theorem dX8_most_98 : decode cX8_most 98 = .ok (.ifCond .lt 30, 3) := by decide +kernel
theorem dX8_most_101 : decode cX8_most 101 = .ok (.aload_n 0, 1) := by decide +kernel
theorem dX8_most_102 : decode cX8_most 102 = .ok (.getfield 103, 3) := by decide +kernel
theorem dX8_most_105 : decode cX8_most 105 = .ok (.iload_n 1, 1) := by decide +kernel
theorem dX8_most_106 : decode cX8_most 106 = .ok (.iload 11, 2) := by decide +kernel
theorem dX8_most_108 : decode cX8_most 108 = .ok (.iadd, 1) := by decide +kernel
theorem dX8_most_109 : decode cX8_most 109 = .ok (.iconst 5, 1) := by decide +kernel
theorem dX8_most_110 : decode cX8_most 110 = .ok (.iload 10, 2) := by decide +kernel
theorem dX8_most_112 : decode cX8_most 112 = .ok (.iconst 5, 1) := by decide +kernel
theorem dX8_most_113 : decode cX8_most 113 = .ok (.irem, 1) := by decide +kernel
theorem dX8_most_114 : decode cX8_most 114 = .ok (.imul, 1) := by decide +kernel
theorem dX8_most_115 : decode cX8_most 115 = .ok (.iastore, 1) := by decide +kernel
theorem dX8_most_116 : decode cX8_most 116 = .ok (.iload 10, 2) := by decide +kernel
theorem dX8_most_118 : decode cX8_most 118 = .ok (.iconst 5, 1) := by decide +kernel
theorem dX8_most_119 : decode cX8_most 119 = .ok (.idiv, 1) := by decide +kernel
theorem dX8_most_120 : decode cX8_most 120 = .ok (.istore 10, 2) := by decide +kernel
theorem dX8_most_122 : decode cX8_most 122 = .ok (.iinc 11 (-1), 3) := by decide +kernel
theorem dX8_most_125 : decode cX8_most 125 = .ok (.goto (-29), 3) := by decide +kernel
theorem dX8_most_128 : decode cX8_most 128 = .ok (.aload_n 0, 1) := by decide +kernel
theorem dX8_most_129 : decode cX8_most 129 = .ok (.iload_n 3, 1) := by decide +kernel
theorem dX8_most_130 : decode cX8_most 130 = .ok (.iload 4, 2) := by decide +kernel
theorem dX8_most_132 : decode cX8_most 132 = .ok (.invokevirtual 242, 3) := by decide +kernel
theorem dX8_most_135 : decode cX8_most 135 = .ok (.istore 11, 2) := by decide +kernel
theorem dX8_most_137 : decode cX8_most 137 = .ok (.iload 7, 2) := by decide +kernel
theorem dX8_most_139 : decode cX8_most 139 = .ok (.iconst (-1), 1) := by decide +kernel
theorem dX8_most_140 : decode cX8_most 140 = .ok (.if_icmp .eq 13, 3) := by decide +kernel
theorem dX8_most_143 : decode cX8_most 143 = .ok (.iload 11, 2) := by decide +kernel
theorem dX8_most_145 : decode cX8_most 145 = .ok (.iload 7, 2) := by decide +kernel
theorem dX8_most_147 : decode cX8_most 147 = .ok (.if_icmp .gt 6, 3) := by decide +kernel
theorem dX8_most_150 : decode cX8_most 150 = .ok (.goto 11, 3) := by decide +kernel
theorem dX8_most_153 : decode cX8_most 153 = .ok (.iload 11, 2) := by decide +kernel
theorem dX8_most_155 : decode cX8_most 155 = .ok (.istore 7, 2) := by decide +kernel
theorem dX8_most_157 : decode cX8_most 157 = .ok (.iload 9, 2) := by decide +kernel
theorem dX8_most_159 : decode cX8_most 159 = .ok (.istore 8, 2) := by decide +kernel
theorem dX8_most_161 : decode cX8_most 161 = .ok (.iinc 9 1, 3) := by decide +kernel
theorem dX8_most_164 : decode cX8_most 164 = .ok (.goto (-84), 3) := by decide +kernel
theorem dX8_most_167 : decode cX8_most 167 = .ok (.iload 5, 2) := by decide +kernel
theorem dX8_most_169 : decode cX8_most 169 = .ok (.ifCond .ne 6, 3) := by decide +kernel
theorem dX8_most_172 : decode cX8_most 172 = .ok (.iload 7, 2) := by decide +kernel
theorem dX8_most_174 : decode cX8_most 174 = .ok (.ireturn, 1) := by decide +kernel
theorem dX8_most_175 : decode cX8_most 175 = .ok (.iload 5, 2) := by decide +kernel
theorem dX8_most_177 : decode cX8_most 177 = .ok (.istore 9, 2) := by decide +kernel
theorem dX8_most_179 : decode cX8_most 179 = .ok (.iload 9, 2) := by decide +kernel
theorem dX8_most_181 : decode cX8_most 181 = .ok (.iload_n 2, 1) := by decide +kernel
theorem dX8_most_182 : decode cX8_most 182 = .ok (.if_icmp .ge 15, 3) := by decide +kernel
theorem dX8_most_185 : decode cX8_most 185 = .ok (.iload 8, 2) := by decide +kernel
theorem dX8_most_187 : decode cX8_most 187 = .ok (.iconst 5, 1) := by decide +kernel
theorem dX8_most_188 : decode cX8_most 188 = .ok (.idiv, 1) := by decide +kernel
theorem dX8_most_189 : decode cX8_most 189 = .ok (.istore 8, 2) := by decide +kernel
theorem dX8_most_191 : decode cX8_most 191 = .ok (.iinc 9 1, 3) := by decide +kernel
theorem dX8_most_194 : decode cX8_most 194 = .ok (.goto (-15), 3) := by decide +kernel
theorem dX8_most_197 : decode cX8_most 197 = .ok (.iconst 5, 1) := by decide +kernel
theorem dX8_most_198 : decode cX8_most 198 = .ok (.iload 8, 2) := by decide +kernel
theorem dX8_most_200 : decode cX8_most 200 = .ok (.iconst 5, 1) := by decide +kernel
theorem dX8_most_201 : decode cX8_most 201 = .ok (.irem, 1) := by decide +kernel
theorem dX8_most_202 : decode cX8_most 202 = .ok (.imul, 1) := by decide +kernel
theorem dX8_most_203 : decode cX8_most 203 = .ok (.ireturn, 1) := by decide +kernel
theorem dX8_breach_0 : decode cX8_breach 0 = .ok (.iload_n 1, 1) := by decide +kernel
theorem dX8_breach_1 : decode cX8_breach 1 = .ok (.ifCond .ne 10, 3) := by decide +kernel
theorem dX8_breach_4 : decode cX8_breach 4 = .ok (.aload_n 0, 1) := by decide +kernel
theorem dX8_breach_5 : decode cX8_breach 5 = .ok (.getfield 68, 3) := by decide +kernel
theorem dX8_breach_8 : decode cX8_breach 8 = .ok (.goto 28, 3) := by decide +kernel
theorem dX8_breach_11 : decode cX8_breach 11 = .ok (.iload_n 1, 1) := by decide +kernel
theorem dX8_breach_12 : decode cX8_breach 12 = .ok (.iconst 1, 1) := by decide +kernel
theorem dX8_breach_13 : decode cX8_breach 13 = .ok (.if_icmp .ne 10, 3) := by decide +kernel
theorem dX8_breach_16 : decode cX8_breach 16 = .ok (.aload_n 0, 1) := by decide +kernel
theorem dX8_breach_17 : decode cX8_breach 17 = .ok (.getfield 72, 3) := by decide +kernel
theorem dX8_breach_20 : decode cX8_breach 20 = .ok (.goto 16, 3) := by decide +kernel
theorem dX8_breach_23 : decode cX8_breach 23 = .ok (.iload_n 1, 1) := by decide +kernel
theorem dX8_breach_24 : decode cX8_breach 24 = .ok (.iconst 2, 1) := by decide +kernel
theorem dX8_breach_25 : decode cX8_breach 25 = .ok (.if_icmp .ne 10, 3) := by decide +kernel
theorem dX8_breach_28 : decode cX8_breach 28 = .ok (.aload_n 0, 1) := by decide +kernel
theorem dX8_breach_29 : decode cX8_breach 29 = .ok (.getfield 75, 3) := by decide +kernel
theorem dX8_breach_32 : decode cX8_breach 32 = .ok (.goto 4, 3) := by decide +kernel
theorem dX8_breach_35 : decode cX8_breach 35 = .ok (.iconst (-1), 1) := by decide +kernel
theorem dX8_breach_36 : decode cX8_breach 36 = .ok (.ireturn, 1) := by decide +kernel
theorem dX8_count_0 : decode cX8_count 0 = .ok (.iload_n 1, 1) := by decide +kernel
theorem dX8_count_1 : decode cX8_count 1 = .ok (.tableswitch 129 0 9 #[55, 60, 65, 70, 99, 104, 109, 114, 119, 124], 55) := by decide +kernel
theorem dX8_count_56 : decode cX8_count 56 = .ok (.aload_n 0, 1) := by decide +kernel
theorem dX8_count_57 : decode cX8_count 57 = .ok (.getfield 129, 3) := by decide +kernel
theorem dX8_count_60 : decode cX8_count 60 = .ok (.ireturn, 1) := by decide +kernel
theorem dX8_count_61 : decode cX8_count 61 = .ok (.aload_n 0, 1) := by decide +kernel
theorem dX8_count_62 : decode cX8_count 62 = .ok (.getfield 118, 3) := by decide +kernel
theorem dX8_count_65 : decode cX8_count 65 = .ok (.ireturn, 1) := by decide +kernel
theorem dX8_count_66 : decode cX8_count 66 = .ok (.aload_n 0, 1) := by decide +kernel
theorem dX8_count_67 : decode cX8_count 67 = .ok (.getfield 139, 3) := by decide +kernel
theorem dX8_count_70 : decode cX8_count 70 = .ok (.ireturn, 1) := by decide +kernel
theorem dX8_count_71 : decode cX8_count 71 = .ok (.iconst 0, 1) := by decide +kernel
theorem dX8_count_72 : decode cX8_count 72 = .ok (.istore_n 2, 1) := by decide +kernel
theorem dX8_count_73 : decode cX8_count 73 = .ok (.iconst 0, 1) := by decide +kernel
theorem dX8_count_74 : decode cX8_count 74 = .ok (.istore_n 3, 1) := by decide +kernel
theorem dX8_count_75 : decode cX8_count 75 = .ok (.iload_n 3, 1) := by decide +kernel
theorem dX8_count_76 : decode cX8_count 76 = .ok (.aload_n 0, 1) := by decide +kernel
theorem dX8_count_77 : decode cX8_count 77 = .ok (.getfield 118, 3) := by decide +kernel
theorem dX8_count_80 : decode cX8_count 80 = .ok (.if_icmp .ge 18, 3) := by decide +kernel
theorem dX8_count_83 : decode cX8_count 83 = .ok (.iload_n 2, 1) := by decide +kernel
theorem dX8_count_84 : decode cX8_count 84 = .ok (.aload_n 0, 1) := by decide +kernel
theorem dX8_count_85 : decode cX8_count 85 = .ok (.getfield 19, 3) := by decide +kernel
theorem dX8_count_88 : decode cX8_count 88 = .ok (.iload_n 3, 1) := by decide +kernel
theorem dX8_count_89 : decode cX8_count 89 = .ok (.iaload, 1) := by decide +kernel
theorem dX8_count_90 : decode cX8_count 90 = .ok (.iadd, 1) := by decide +kernel
theorem dX8_count_91 : decode cX8_count 91 = .ok (.istore_n 2, 1) := by decide +kernel
theorem dX8_count_92 : decode cX8_count 92 = .ok (.iinc 3 1, 3) := by decide +kernel
theorem dX8_count_95 : decode cX8_count 95 = .ok (.goto (-20), 3) := by decide +kernel
theorem dX8_count_98 : decode cX8_count 98 = .ok (.iload_n 2, 1) := by decide +kernel
theorem dX8_count_99 : decode cX8_count 99 = .ok (.ireturn, 1) := by decide +kernel
theorem dX8_count_100 : decode cX8_count 100 = .ok (.aload_n 0, 1) := by decide +kernel
theorem dX8_count_101 : decode cX8_count 101 = .ok (.getfield 226, 3) := by decide +kernel
theorem dX8_count_104 : decode cX8_count 104 = .ok (.ireturn, 1) := by decide +kernel
theorem dX8_count_105 : decode cX8_count 105 = .ok (.aload_n 0, 1) := by decide +kernel
theorem dX8_count_106 : decode cX8_count 106 = .ok (.getfield 217, 3) := by decide +kernel
theorem dX8_count_109 : decode cX8_count 109 = .ok (.ireturn, 1) := by decide +kernel
theorem dX8_count_110 : decode cX8_count 110 = .ok (.aload_n 0, 1) := by decide +kernel
theorem dX8_count_111 : decode cX8_count 111 = .ok (.getfield 220, 3) := by decide +kernel
theorem dX8_count_114 : decode cX8_count 114 = .ok (.ireturn, 1) := by decide +kernel
theorem dX8_count_115 : decode cX8_count 115 = .ok (.aload_n 0, 1) := by decide +kernel
theorem dX8_count_116 : decode cX8_count 116 = .ok (.getfield 223, 3) := by decide +kernel
theorem dX8_count_119 : decode cX8_count 119 = .ok (.ireturn, 1) := by decide +kernel
theorem dX8_count_120 : decode cX8_count 120 = .ok (.aload_n 0, 1) := by decide +kernel
theorem dX8_count_121 : decode cX8_count 121 = .ok (.getfield 146, 3) := by decide +kernel
theorem dX8_count_124 : decode cX8_count 124 = .ok (.ireturn, 1) := by decide +kernel
theorem dX8_count_125 : decode cX8_count 125 = .ok (.aload_n 0, 1) := by decide +kernel
theorem dX8_count_126 : decode cX8_count 126 = .ok (.getfield 136, 3) := by decide +kernel
theorem dX8_count_129 : decode cX8_count 129 = .ok (.ireturn, 1) := by decide +kernel
theorem dX8_count_130 : decode cX8_count 130 = .ok (.iconst (-1), 1) := by decide +kernel
theorem dX8_count_131 : decode cX8_count 131 = .ok (.ireturn, 1) := by decide +kernel
end
section
theorem dL_cell_0 : decode cL_cell 0 = .ok (.iload_n 1, 1) := by decide +kernel
theorem dL_cell_1 : decode cL_cell 1 = .ok (.aload_n 0, 1) := by decide +kernel
theorem dL_cell_2 : decode cL_cell 2 = .ok (.arraylength, 1) := by decide +kernel
theorem dL_cell_3 : decode cL_cell 3 = .ok (.if_icmp .ge 9, 3) := by decide +kernel
theorem dL_cell_6 : decode cL_cell 6 = .ok (.aload_n 0, 1) := by decide +kernel
theorem dL_cell_7 : decode cL_cell 7 = .ok (.iload_n 1, 1) := by decide +kernel
theorem dL_cell_8 : decode cL_cell 8 = .ok (.iaload, 1) := by decide +kernel
theorem dL_cell_9 : decode cL_cell 9 = .ok (.goto 4, 3) := by decide +kernel
theorem dL_cell_12 : decode cL_cell 12 = .ok (.iconst 0, 1) := by decide +kernel
theorem dL_cell_13 : decode cL_cell 13 = .ok (.ireturn, 1) := by decide +kernel
theorem dL_law_0 : decode cL_law 0 = .ok (.new 7, 3) := by decide +kernel
theorem dL_law_3 : decode cL_law 3 = .ok (.dup, 1) := by decide +kernel
theorem dL_law_4 : decode cL_law 4 = .ok (.aload_n 0, 1) := by decide +kernel
theorem dL_law_5 : decode cL_law 5 = .ok (.iconst 0, 1) := by decide +kernel
theorem dL_law_6 : decode cL_law 6 = .ok (.invokestatic 9, 3) := by decide +kernel
theorem dL_law_9 : decode cL_law 9 = .ok (.invokespecial 15, 3) := by decide +kernel
theorem dL_law_12 : decode cL_law 12 = .ok (.astore_n 1, 1) := by decide +kernel
theorem dL_law_13 : decode cL_law 13 = .ok (.new 18, 3) := by decide +kernel
theorem dL_law_16 : decode cL_law 16 = .ok (.dup, 1) := by decide +kernel
theorem dL_law_17 : decode cL_law 17 = .ok (.aload_n 0, 1) := by decide +kernel
theorem dL_law_18 : decode cL_law 18 = .ok (.iconst 0, 1) := by decide +kernel
theorem dL_law_19 : decode cL_law 19 = .ok (.invokestatic 9, 3) := by decide +kernel
theorem dL_law_22 : decode cL_law 22 = .ok (.invokespecial 20, 3) := by decide +kernel
theorem dL_law_25 : decode cL_law 25 = .ok (.astore_n 2, 1) := by decide +kernel
theorem dL_law_26 : decode cL_law 26 = .ok (.iconst 1, 1) := by decide +kernel
theorem dL_law_27 : decode cL_law 27 = .ok (.istore_n 3, 1) := by decide +kernel
theorem dL_law_28 : decode cL_law 28 = .ok (.iload_n 3, 1) := by decide +kernel
theorem dL_law_29 : decode cL_law 29 = .ok (.aload_n 0, 1) := by decide +kernel
theorem dL_law_30 : decode cL_law 30 = .ok (.arraylength, 1) := by decide +kernel
theorem dL_law_31 : decode cL_law 31 = .ok (.bipush 6, 2) := by decide +kernel
theorem dL_law_33 : decode cL_law 33 = .ok (.isub, 1) := by decide +kernel
theorem dL_law_34 : decode cL_law 34 = .ok (.if_icmp .gt 817, 3) := by decide +kernel
theorem dL_law_37 : decode cL_law 37 = .ok (.aload_n 0, 1) := by decide +kernel
theorem dL_law_38 : decode cL_law 38 = .ok (.iload_n 3, 1) := by decide +kernel
theorem dL_law_39 : decode cL_law 39 = .ok (.iaload, 1) := by decide +kernel
theorem dL_law_40 : decode cL_law 40 = .ok (.bipush 31, 2) := by decide +kernel
theorem dL_law_42 : decode cL_law 42 = .ok (.iand, 1) := by decide +kernel
theorem dL_law_43 : decode cL_law 43 = .ok (.tableswitch 802 0 18 #[89, 142, 175, 254, 287, 320, 353, 416, 439, 452, 475, 508, 541, 574, 597, 640, 693, 756, 779], 89) := by decide +kernel
theorem dL_law_132 : decode cL_law 132 = .ok (.aload_n 1, 1) := by decide +kernel
theorem dL_law_133 : decode cL_law 133 = .ok (.aload_n 0, 1) := by decide +kernel
theorem dL_law_134 : decode cL_law 134 = .ok (.iload_n 3, 1) := by decide +kernel
theorem dL_law_135 : decode cL_law 135 = .ok (.iconst 1, 1) := by decide +kernel
theorem dL_law_136 : decode cL_law 136 = .ok (.iadd, 1) := by decide +kernel
theorem dL_law_137 : decode cL_law 137 = .ok (.iaload, 1) := by decide +kernel
theorem dL_law_138 : decode cL_law 138 = .ok (.aload_n 0, 1) := by decide +kernel
theorem dL_law_139 : decode cL_law 139 = .ok (.iload_n 3, 1) := by decide +kernel
theorem dL_law_140 : decode cL_law 140 = .ok (.iconst 2, 1) := by decide +kernel
theorem dL_law_141 : decode cL_law 141 = .ok (.iadd, 1) := by decide +kernel
theorem dL_law_142 : decode cL_law 142 = .ok (.iaload, 1) := by decide +kernel
theorem dL_law_143 : decode cL_law 143 = .ok (.aload_n 0, 1) := by decide +kernel
theorem dL_law_144 : decode cL_law 144 = .ok (.iload_n 3, 1) := by decide +kernel
theorem dL_law_145 : decode cL_law 145 = .ok (.iconst 3, 1) := by decide +kernel
theorem dL_law_146 : decode cL_law 146 = .ok (.iadd, 1) := by decide +kernel
theorem dL_law_147 : decode cL_law 147 = .ok (.iaload, 1) := by decide +kernel
theorem dL_law_148 : decode cL_law 148 = .ok (.aload_n 0, 1) := by decide +kernel
theorem dL_law_149 : decode cL_law 149 = .ok (.iload_n 3, 1) := by decide +kernel
theorem dL_law_150 : decode cL_law 150 = .ok (.iconst 4, 1) := by decide +kernel
theorem dL_law_151 : decode cL_law 151 = .ok (.iadd, 1) := by decide +kernel
theorem dL_law_152 : decode cL_law 152 = .ok (.iaload, 1) := by decide +kernel
theorem dL_law_153 : decode cL_law 153 = .ok (.invokevirtual 21, 3) := by decide +kernel
theorem dL_law_156 : decode cL_law 156 = .ok (.aload_n 2, 1) := by decide +kernel
theorem dL_law_157 : decode cL_law 157 = .ok (.aload_n 0, 1) := by decide +kernel
theorem dL_law_158 : decode cL_law 158 = .ok (.iload_n 3, 1) := by decide +kernel
theorem dL_law_159 : decode cL_law 159 = .ok (.iconst 1, 1) := by decide +kernel
theorem dL_law_160 : decode cL_law 160 = .ok (.iadd, 1) := by decide +kernel
theorem dL_law_161 : decode cL_law 161 = .ok (.iaload, 1) := by decide +kernel
theorem dL_law_162 : decode cL_law 162 = .ok (.aload_n 0, 1) := by decide +kernel
theorem dL_law_163 : decode cL_law 163 = .ok (.iload_n 3, 1) := by decide +kernel
theorem dL_law_164 : decode cL_law 164 = .ok (.iconst 2, 1) := by decide +kernel
theorem dL_law_165 : decode cL_law 165 = .ok (.iadd, 1) := by decide +kernel
theorem dL_law_166 : decode cL_law 166 = .ok (.iaload, 1) := by decide +kernel
theorem dL_law_167 : decode cL_law 167 = .ok (.aload_n 0, 1) := by decide +kernel
theorem dL_law_168 : decode cL_law 168 = .ok (.iload_n 3, 1) := by decide +kernel
theorem dL_law_169 : decode cL_law 169 = .ok (.iconst 3, 1) := by decide +kernel
theorem dL_law_170 : decode cL_law 170 = .ok (.iadd, 1) := by decide +kernel
theorem dL_law_171 : decode cL_law 171 = .ok (.iaload, 1) := by decide +kernel
theorem dL_law_172 : decode cL_law 172 = .ok (.aload_n 0, 1) := by decide +kernel
theorem dL_law_173 : decode cL_law 173 = .ok (.iload_n 3, 1) := by decide +kernel
theorem dL_law_174 : decode cL_law 174 = .ok (.iconst 4, 1) := by decide +kernel
theorem dL_law_175 : decode cL_law 175 = .ok (.iadd, 1) := by decide +kernel
theorem dL_law_176 : decode cL_law 176 = .ok (.iaload, 1) := by decide +kernel
theorem dL_law_177 : decode cL_law 177 = .ok (.invokevirtual 25, 3) := by decide +kernel
theorem dL_law_180 : decode cL_law 180 = .ok (.if_icmp .eq 665, 3) := by decide +kernel
theorem dL_law_183 : decode cL_law 183 = .ok (.iconst 0, 1) := by decide +kernel
theorem dL_law_184 : decode cL_law 184 = .ok (.ireturn, 1) := by decide +kernel
theorem dL_law_185 : decode cL_law 185 = .ok (.aload_n 1, 1) := by decide +kernel
theorem dL_law_186 : decode cL_law 186 = .ok (.aload_n 0, 1) := by decide +kernel
theorem dL_law_187 : decode cL_law 187 = .ok (.iload_n 3, 1) := by decide +kernel
theorem dL_law_188 : decode cL_law 188 = .ok (.iconst 1, 1) := by decide +kernel
theorem dL_law_189 : decode cL_law 189 = .ok (.iadd, 1) := by decide +kernel
theorem dL_law_190 : decode cL_law 190 = .ok (.iaload, 1) := by decide +kernel
theorem dL_law_191 : decode cL_law 191 = .ok (.aload_n 0, 1) := by decide +kernel
theorem dL_law_192 : decode cL_law 192 = .ok (.iload_n 3, 1) := by decide +kernel
theorem dL_law_193 : decode cL_law 193 = .ok (.iconst 2, 1) := by decide +kernel
theorem dL_law_194 : decode cL_law 194 = .ok (.iadd, 1) := by decide +kernel
theorem dL_law_195 : decode cL_law 195 = .ok (.iaload, 1) := by decide +kernel
theorem dL_law_196 : decode cL_law 196 = .ok (.invokevirtual 26, 3) := by decide +kernel
theorem dL_law_199 : decode cL_law 199 = .ok (.aload_n 2, 1) := by decide +kernel
theorem dL_law_200 : decode cL_law 200 = .ok (.aload_n 0, 1) := by decide +kernel
theorem dL_law_201 : decode cL_law 201 = .ok (.iload_n 3, 1) := by decide +kernel
theorem dL_law_202 : decode cL_law 202 = .ok (.iconst 1, 1) := by decide +kernel
theorem dL_law_203 : decode cL_law 203 = .ok (.iadd, 1) := by decide +kernel
theorem dL_law_204 : decode cL_law 204 = .ok (.iaload, 1) := by decide +kernel
theorem dL_law_205 : decode cL_law 205 = .ok (.aload_n 0, 1) := by decide +kernel
theorem dL_law_206 : decode cL_law 206 = .ok (.iload_n 3, 1) := by decide +kernel
theorem dL_law_207 : decode cL_law 207 = .ok (.iconst 2, 1) := by decide +kernel
theorem dL_law_208 : decode cL_law 208 = .ok (.iadd, 1) := by decide +kernel
theorem dL_law_209 : decode cL_law 209 = .ok (.iaload, 1) := by decide +kernel
theorem dL_law_210 : decode cL_law 210 = .ok (.invokevirtual 30, 3) := by decide +kernel
theorem dL_law_213 : decode cL_law 213 = .ok (.if_icmp .eq 632, 3) := by decide +kernel
theorem dL_law_216 : decode cL_law 216 = .ok (.iconst 0, 1) := by decide +kernel
theorem dL_law_217 : decode cL_law 217 = .ok (.ireturn, 1) := by decide +kernel
theorem dL_law_218 : decode cL_law 218 = .ok (.aload_n 1, 1) := by decide +kernel
theorem dL_law_219 : decode cL_law 219 = .ok (.aload_n 0, 1) := by decide +kernel
theorem dL_law_220 : decode cL_law 220 = .ok (.iload_n 3, 1) := by decide +kernel
theorem dL_law_221 : decode cL_law 221 = .ok (.iconst 1, 1) := by decide +kernel
theorem dL_law_222 : decode cL_law 222 = .ok (.iadd, 1) := by decide +kernel
theorem dL_law_223 : decode cL_law 223 = .ok (.iaload, 1) := by decide +kernel
theorem dL_law_224 : decode cL_law 224 = .ok (.aload_n 0, 1) := by decide +kernel
theorem dL_law_225 : decode cL_law 225 = .ok (.iload_n 3, 1) := by decide +kernel
theorem dL_law_226 : decode cL_law 226 = .ok (.iconst 2, 1) := by decide +kernel
theorem dL_law_227 : decode cL_law 227 = .ok (.iadd, 1) := by decide +kernel
theorem dL_law_228 : decode cL_law 228 = .ok (.iaload, 1) := by decide +kernel
theorem dL_law_229 : decode cL_law 229 = .ok (.aload_n 0, 1) := by decide +kernel
theorem dL_law_230 : decode cL_law 230 = .ok (.iload_n 3, 1) := by decide +kernel
theorem dL_law_231 : decode cL_law 231 = .ok (.iconst 3, 1) := by decide +kernel
theorem dL_law_232 : decode cL_law 232 = .ok (.iadd, 1) := by decide +kernel
theorem dL_law_233 : decode cL_law 233 = .ok (.iaload, 1) := by decide +kernel
theorem dL_law_234 : decode cL_law 234 = .ok (.aload_n 0, 1) := by decide +kernel
theorem dL_law_235 : decode cL_law 235 = .ok (.iload_n 3, 1) := by decide +kernel
theorem dL_law_236 : decode cL_law 236 = .ok (.iconst 4, 1) := by decide +kernel
theorem dL_law_237 : decode cL_law 237 = .ok (.iadd, 1) := by decide +kernel
theorem dL_law_238 : decode cL_law 238 = .ok (.iaload, 1) := by decide +kernel
theorem dL_law_239 : decode cL_law 239 = .ok (.aload_n 0, 1) := by decide +kernel
theorem dL_law_240 : decode cL_law 240 = .ok (.iload_n 3, 1) := by decide +kernel
theorem dL_law_241 : decode cL_law 241 = .ok (.iconst 5, 1) := by decide +kernel
theorem dL_law_242 : decode cL_law 242 = .ok (.iadd, 1) := by decide +kernel
theorem dL_law_243 : decode cL_law 243 = .ok (.iaload, 1) := by decide +kernel
theorem dL_law_244 : decode cL_law 244 = .ok (.ifCond .eq 7, 3) := by decide +kernel
theorem dL_law_247 : decode cL_law 247 = .ok (.iconst 1, 1) := by decide +kernel
theorem dL_law_248 : decode cL_law 248 = .ok (.goto 4, 3) := by decide +kernel
theorem dL_law_251 : decode cL_law 251 = .ok (.iconst 0, 1) := by decide +kernel
theorem dL_law_252 : decode cL_law 252 = .ok (.invokevirtual 31, 3) := by decide +kernel
theorem dL_law_255 : decode cL_law 255 = .ok (.aload_n 2, 1) := by decide +kernel
theorem dL_law_256 : decode cL_law 256 = .ok (.aload_n 0, 1) := by decide +kernel
theorem dL_law_257 : decode cL_law 257 = .ok (.iload_n 3, 1) := by decide +kernel
theorem dL_law_258 : decode cL_law 258 = .ok (.iconst 1, 1) := by decide +kernel
theorem dL_law_259 : decode cL_law 259 = .ok (.iadd, 1) := by decide +kernel
theorem dL_law_260 : decode cL_law 260 = .ok (.iaload, 1) := by decide +kernel
theorem dL_law_261 : decode cL_law 261 = .ok (.aload_n 0, 1) := by decide +kernel
theorem dL_law_262 : decode cL_law 262 = .ok (.iload_n 3, 1) := by decide +kernel
theorem dL_law_263 : decode cL_law 263 = .ok (.iconst 2, 1) := by decide +kernel
theorem dL_law_264 : decode cL_law 264 = .ok (.iadd, 1) := by decide +kernel
theorem dL_law_265 : decode cL_law 265 = .ok (.iaload, 1) := by decide +kernel
theorem dL_law_266 : decode cL_law 266 = .ok (.aload_n 0, 1) := by decide +kernel
theorem dL_law_267 : decode cL_law 267 = .ok (.iload_n 3, 1) := by decide +kernel
theorem dL_law_268 : decode cL_law 268 = .ok (.iconst 3, 1) := by decide +kernel
theorem dL_law_269 : decode cL_law 269 = .ok (.iadd, 1) := by decide +kernel
theorem dL_law_270 : decode cL_law 270 = .ok (.iaload, 1) := by decide +kernel
theorem dL_law_271 : decode cL_law 271 = .ok (.aload_n 0, 1) := by decide +kernel
theorem dL_law_272 : decode cL_law 272 = .ok (.iload_n 3, 1) := by decide +kernel
theorem dL_law_273 : decode cL_law 273 = .ok (.iconst 4, 1) := by decide +kernel
theorem dL_law_274 : decode cL_law 274 = .ok (.iadd, 1) := by decide +kernel
theorem dL_law_275 : decode cL_law 275 = .ok (.iaload, 1) := by decide +kernel
theorem dL_law_276 : decode cL_law 276 = .ok (.aload_n 0, 1) := by decide +kernel
theorem dL_law_277 : decode cL_law 277 = .ok (.iload_n 3, 1) := by decide +kernel
theorem dL_law_278 : decode cL_law 278 = .ok (.iconst 5, 1) := by decide +kernel
theorem dL_law_279 : decode cL_law 279 = .ok (.iadd, 1) := by decide +kernel
theorem dL_law_280 : decode cL_law 280 = .ok (.iaload, 1) := by decide +kernel
theorem dL_law_281 : decode cL_law 281 = .ok (.ifCond .eq 7, 3) := by decide +kernel
theorem dL_law_284 : decode cL_law 284 = .ok (.iconst 1, 1) := by decide +kernel
theorem dL_law_285 : decode cL_law 285 = .ok (.goto 4, 3) := by decide +kernel
theorem dL_law_288 : decode cL_law 288 = .ok (.iconst 0, 1) := by decide +kernel
theorem dL_law_289 : decode cL_law 289 = .ok (.invokevirtual 35, 3) := by decide +kernel
theorem dL_law_292 : decode cL_law 292 = .ok (.if_icmp .eq 553, 3) := by decide +kernel
theorem dL_law_295 : decode cL_law 295 = .ok (.iconst 0, 1) := by decide +kernel
theorem dL_law_296 : decode cL_law 296 = .ok (.ireturn, 1) := by decide +kernel
theorem dL_law_297 : decode cL_law 297 = .ok (.aload_n 1, 1) := by decide +kernel
theorem dL_law_298 : decode cL_law 298 = .ok (.aload_n 0, 1) := by decide +kernel
theorem dL_law_299 : decode cL_law 299 = .ok (.iload_n 3, 1) := by decide +kernel
theorem dL_law_300 : decode cL_law 300 = .ok (.iconst 1, 1) := by decide +kernel
theorem dL_law_301 : decode cL_law 301 = .ok (.iadd, 1) := by decide +kernel
theorem dL_law_302 : decode cL_law 302 = .ok (.iaload, 1) := by decide +kernel
theorem dL_law_303 : decode cL_law 303 = .ok (.aload_n 0, 1) := by decide +kernel
theorem dL_law_304 : decode cL_law 304 = .ok (.iload_n 3, 1) := by decide +kernel
theorem dL_law_305 : decode cL_law 305 = .ok (.iconst 2, 1) := by decide +kernel
theorem dL_law_306 : decode cL_law 306 = .ok (.iadd, 1) := by decide +kernel
theorem dL_law_307 : decode cL_law 307 = .ok (.iaload, 1) := by decide +kernel
theorem dL_law_308 : decode cL_law 308 = .ok (.invokevirtual 36, 3) := by decide +kernel
theorem dL_law_311 : decode cL_law 311 = .ok (.aload_n 2, 1) := by decide +kernel
theorem dL_law_312 : decode cL_law 312 = .ok (.aload_n 0, 1) := by decide +kernel
theorem dL_law_313 : decode cL_law 313 = .ok (.iload_n 3, 1) := by decide +kernel
theorem dL_law_314 : decode cL_law 314 = .ok (.iconst 1, 1) := by decide +kernel
theorem dL_law_315 : decode cL_law 315 = .ok (.iadd, 1) := by decide +kernel
theorem dL_law_316 : decode cL_law 316 = .ok (.iaload, 1) := by decide +kernel
theorem dL_law_317 : decode cL_law 317 = .ok (.aload_n 0, 1) := by decide +kernel
theorem dL_law_318 : decode cL_law 318 = .ok (.iload_n 3, 1) := by decide +kernel
theorem dL_law_319 : decode cL_law 319 = .ok (.iconst 2, 1) := by decide +kernel
theorem dL_law_320 : decode cL_law 320 = .ok (.iadd, 1) := by decide +kernel
theorem dL_law_321 : decode cL_law 321 = .ok (.iaload, 1) := by decide +kernel
theorem dL_law_322 : decode cL_law 322 = .ok (.invokevirtual 39, 3) := by decide +kernel
theorem dL_law_325 : decode cL_law 325 = .ok (.if_icmp .eq 520, 3) := by decide +kernel
theorem dL_law_328 : decode cL_law 328 = .ok (.iconst 0, 1) := by decide +kernel
theorem dL_law_329 : decode cL_law 329 = .ok (.ireturn, 1) := by decide +kernel
theorem dL_law_330 : decode cL_law 330 = .ok (.aload_n 1, 1) := by decide +kernel
theorem dL_law_331 : decode cL_law 331 = .ok (.aload_n 0, 1) := by decide +kernel
theorem dL_law_332 : decode cL_law 332 = .ok (.iload_n 3, 1) := by decide +kernel
theorem dL_law_333 : decode cL_law 333 = .ok (.iconst 1, 1) := by decide +kernel
theorem dL_law_334 : decode cL_law 334 = .ok (.iadd, 1) := by decide +kernel
theorem dL_law_335 : decode cL_law 335 = .ok (.iaload, 1) := by decide +kernel
theorem dL_law_336 : decode cL_law 336 = .ok (.aload_n 0, 1) := by decide +kernel
theorem dL_law_337 : decode cL_law 337 = .ok (.iload_n 3, 1) := by decide +kernel
theorem dL_law_338 : decode cL_law 338 = .ok (.iconst 2, 1) := by decide +kernel
theorem dL_law_339 : decode cL_law 339 = .ok (.iadd, 1) := by decide +kernel
theorem dL_law_340 : decode cL_law 340 = .ok (.iaload, 1) := by decide +kernel
theorem dL_law_341 : decode cL_law 341 = .ok (.invokevirtual 40, 3) := by decide +kernel
theorem dL_law_344 : decode cL_law 344 = .ok (.aload_n 2, 1) := by decide +kernel
theorem dL_law_345 : decode cL_law 345 = .ok (.aload_n 0, 1) := by decide +kernel
theorem dL_law_346 : decode cL_law 346 = .ok (.iload_n 3, 1) := by decide +kernel
theorem dL_law_347 : decode cL_law 347 = .ok (.iconst 1, 1) := by decide +kernel
theorem dL_law_348 : decode cL_law 348 = .ok (.iadd, 1) := by decide +kernel
theorem dL_law_349 : decode cL_law 349 = .ok (.iaload, 1) := by decide +kernel
theorem dL_law_350 : decode cL_law 350 = .ok (.aload_n 0, 1) := by decide +kernel
theorem dL_law_351 : decode cL_law 351 = .ok (.iload_n 3, 1) := by decide +kernel
theorem dL_law_352 : decode cL_law 352 = .ok (.iconst 2, 1) := by decide +kernel
theorem dL_law_353 : decode cL_law 353 = .ok (.iadd, 1) := by decide +kernel
theorem dL_law_354 : decode cL_law 354 = .ok (.iaload, 1) := by decide +kernel
theorem dL_law_355 : decode cL_law 355 = .ok (.invokevirtual 43, 3) := by decide +kernel
theorem dL_law_358 : decode cL_law 358 = .ok (.if_icmp .eq 487, 3) := by decide +kernel
theorem dL_law_361 : decode cL_law 361 = .ok (.iconst 0, 1) := by decide +kernel
theorem dL_law_362 : decode cL_law 362 = .ok (.ireturn, 1) := by decide +kernel
theorem dL_law_363 : decode cL_law 363 = .ok (.aload_n 1, 1) := by decide +kernel
theorem dL_law_364 : decode cL_law 364 = .ok (.aload_n 0, 1) := by decide +kernel
theorem dL_law_365 : decode cL_law 365 = .ok (.iload_n 3, 1) := by decide +kernel
theorem dL_law_366 : decode cL_law 366 = .ok (.iconst 1, 1) := by decide +kernel
theorem dL_law_367 : decode cL_law 367 = .ok (.iadd, 1) := by decide +kernel
theorem dL_law_368 : decode cL_law 368 = .ok (.iaload, 1) := by decide +kernel
theorem dL_law_369 : decode cL_law 369 = .ok (.aload_n 0, 1) := by decide +kernel
theorem dL_law_370 : decode cL_law 370 = .ok (.iload_n 3, 1) := by decide +kernel
theorem dL_law_371 : decode cL_law 371 = .ok (.iconst 2, 1) := by decide +kernel
theorem dL_law_372 : decode cL_law 372 = .ok (.iadd, 1) := by decide +kernel
theorem dL_law_373 : decode cL_law 373 = .ok (.iaload, 1) := by decide +kernel
theorem dL_law_374 : decode cL_law 374 = .ok (.invokevirtual 44, 3) := by decide +kernel
theorem dL_law_377 : decode cL_law 377 = .ok (.aload_n 2, 1) := by decide +kernel
theorem dL_law_378 : decode cL_law 378 = .ok (.aload_n 0, 1) := by decide +kernel
theorem dL_law_379 : decode cL_law 379 = .ok (.iload_n 3, 1) := by decide +kernel
theorem dL_law_380 : decode cL_law 380 = .ok (.iconst 1, 1) := by decide +kernel
theorem dL_law_381 : decode cL_law 381 = .ok (.iadd, 1) := by decide +kernel
theorem dL_law_382 : decode cL_law 382 = .ok (.iaload, 1) := by decide +kernel
theorem dL_law_383 : decode cL_law 383 = .ok (.aload_n 0, 1) := by decide +kernel
theorem dL_law_384 : decode cL_law 384 = .ok (.iload_n 3, 1) := by decide +kernel
theorem dL_law_385 : decode cL_law 385 = .ok (.iconst 2, 1) := by decide +kernel
theorem dL_law_386 : decode cL_law 386 = .ok (.iadd, 1) := by decide +kernel
theorem dL_law_387 : decode cL_law 387 = .ok (.iaload, 1) := by decide +kernel
theorem dL_law_388 : decode cL_law 388 = .ok (.invokevirtual 48, 3) := by decide +kernel
theorem dL_law_391 : decode cL_law 391 = .ok (.if_icmp .eq 454, 3) := by decide +kernel
theorem dL_law_394 : decode cL_law 394 = .ok (.iconst 0, 1) := by decide +kernel
theorem dL_law_395 : decode cL_law 395 = .ok (.ireturn, 1) := by decide +kernel
theorem dL_law_396 : decode cL_law 396 = .ok (.aload_n 1, 1) := by decide +kernel
theorem dL_law_397 : decode cL_law 397 = .ok (.aload_n 0, 1) := by decide +kernel
theorem dL_law_398 : decode cL_law 398 = .ok (.iload_n 3, 1) := by decide +kernel
theorem dL_law_399 : decode cL_law 399 = .ok (.iconst 1, 1) := by decide +kernel
theorem dL_law_400 : decode cL_law 400 = .ok (.iadd, 1) := by decide +kernel
theorem dL_law_401 : decode cL_law 401 = .ok (.iaload, 1) := by decide +kernel
theorem dL_law_402 : decode cL_law 402 = .ok (.aload_n 0, 1) := by decide +kernel
theorem dL_law_403 : decode cL_law 403 = .ok (.iload_n 3, 1) := by decide +kernel
theorem dL_law_404 : decode cL_law 404 = .ok (.iconst 2, 1) := by decide +kernel
theorem dL_law_405 : decode cL_law 405 = .ok (.iadd, 1) := by decide +kernel
theorem dL_law_406 : decode cL_law 406 = .ok (.iaload, 1) := by decide +kernel
theorem dL_law_407 : decode cL_law 407 = .ok (.aload_n 0, 1) := by decide +kernel
theorem dL_law_408 : decode cL_law 408 = .ok (.iload_n 3, 1) := by decide +kernel
theorem dL_law_409 : decode cL_law 409 = .ok (.iconst 3, 1) := by decide +kernel
theorem dL_law_410 : decode cL_law 410 = .ok (.iadd, 1) := by decide +kernel
theorem dL_law_411 : decode cL_law 411 = .ok (.iaload, 1) := by decide +kernel
theorem dL_law_412 : decode cL_law 412 = .ok (.aload_n 0, 1) := by decide +kernel
theorem dL_law_413 : decode cL_law 413 = .ok (.iload_n 3, 1) := by decide +kernel
theorem dL_law_414 : decode cL_law 414 = .ok (.iconst 4, 1) := by decide +kernel
theorem dL_law_415 : decode cL_law 415 = .ok (.iadd, 1) := by decide +kernel
theorem dL_law_416 : decode cL_law 416 = .ok (.iaload, 1) := by decide +kernel
theorem dL_law_417 : decode cL_law 417 = .ok (.aload_n 0, 1) := by decide +kernel
theorem dL_law_418 : decode cL_law 418 = .ok (.iload_n 3, 1) := by decide +kernel
theorem dL_law_419 : decode cL_law 419 = .ok (.iconst 5, 1) := by decide +kernel
theorem dL_law_420 : decode cL_law 420 = .ok (.iadd, 1) := by decide +kernel
theorem dL_law_421 : decode cL_law 421 = .ok (.iaload, 1) := by decide +kernel
theorem dL_law_422 : decode cL_law 422 = .ok (.invokevirtual 49, 3) := by decide +kernel
theorem dL_law_425 : decode cL_law 425 = .ok (.aload_n 2, 1) := by decide +kernel
theorem dL_law_426 : decode cL_law 426 = .ok (.aload_n 0, 1) := by decide +kernel
theorem dL_law_427 : decode cL_law 427 = .ok (.iload_n 3, 1) := by decide +kernel
theorem dL_law_428 : decode cL_law 428 = .ok (.iconst 1, 1) := by decide +kernel
theorem dL_law_429 : decode cL_law 429 = .ok (.iadd, 1) := by decide +kernel
theorem dL_law_430 : decode cL_law 430 = .ok (.iaload, 1) := by decide +kernel
theorem dL_law_431 : decode cL_law 431 = .ok (.aload_n 0, 1) := by decide +kernel
theorem dL_law_432 : decode cL_law 432 = .ok (.iload_n 3, 1) := by decide +kernel
theorem dL_law_433 : decode cL_law 433 = .ok (.iconst 2, 1) := by decide +kernel
theorem dL_law_434 : decode cL_law 434 = .ok (.iadd, 1) := by decide +kernel
theorem dL_law_435 : decode cL_law 435 = .ok (.iaload, 1) := by decide +kernel
theorem dL_law_436 : decode cL_law 436 = .ok (.aload_n 0, 1) := by decide +kernel
theorem dL_law_437 : decode cL_law 437 = .ok (.iload_n 3, 1) := by decide +kernel
theorem dL_law_438 : decode cL_law 438 = .ok (.iconst 3, 1) := by decide +kernel
theorem dL_law_439 : decode cL_law 439 = .ok (.iadd, 1) := by decide +kernel
theorem dL_law_440 : decode cL_law 440 = .ok (.iaload, 1) := by decide +kernel
theorem dL_law_441 : decode cL_law 441 = .ok (.aload_n 0, 1) := by decide +kernel
theorem dL_law_442 : decode cL_law 442 = .ok (.iload_n 3, 1) := by decide +kernel
theorem dL_law_443 : decode cL_law 443 = .ok (.iconst 4, 1) := by decide +kernel
theorem dL_law_444 : decode cL_law 444 = .ok (.iadd, 1) := by decide +kernel
theorem dL_law_445 : decode cL_law 445 = .ok (.iaload, 1) := by decide +kernel
theorem dL_law_446 : decode cL_law 446 = .ok (.aload_n 0, 1) := by decide +kernel
theorem dL_law_447 : decode cL_law 447 = .ok (.iload_n 3, 1) := by decide +kernel
theorem dL_law_448 : decode cL_law 448 = .ok (.iconst 5, 1) := by decide +kernel
theorem dL_law_449 : decode cL_law 449 = .ok (.iadd, 1) := by decide +kernel
theorem dL_law_450 : decode cL_law 450 = .ok (.iaload, 1) := by decide +kernel
theorem dL_law_451 : decode cL_law 451 = .ok (.invokevirtual 53, 3) := by decide +kernel
theorem dL_law_454 : decode cL_law 454 = .ok (.if_icmp .eq 391, 3) := by decide +kernel
theorem dL_law_457 : decode cL_law 457 = .ok (.iconst 0, 1) := by decide +kernel
theorem dL_law_458 : decode cL_law 458 = .ok (.ireturn, 1) := by decide +kernel
theorem dL_law_459 : decode cL_law 459 = .ok (.aload_n 1, 1) := by decide +kernel
theorem dL_law_460 : decode cL_law 460 = .ok (.aload_n 0, 1) := by decide +kernel
theorem dL_law_461 : decode cL_law 461 = .ok (.iload_n 3, 1) := by decide +kernel
theorem dL_law_462 : decode cL_law 462 = .ok (.iconst 1, 1) := by decide +kernel
theorem dL_law_463 : decode cL_law 463 = .ok (.iadd, 1) := by decide +kernel
theorem dL_law_464 : decode cL_law 464 = .ok (.iaload, 1) := by decide +kernel
theorem dL_law_465 : decode cL_law 465 = .ok (.invokevirtual 54, 3) := by decide +kernel
theorem dL_law_468 : decode cL_law 468 = .ok (.aload_n 2, 1) := by decide +kernel
theorem dL_law_469 : decode cL_law 469 = .ok (.aload_n 0, 1) := by decide +kernel
theorem dL_law_470 : decode cL_law 470 = .ok (.iload_n 3, 1) := by decide +kernel
theorem dL_law_471 : decode cL_law 471 = .ok (.iconst 1, 1) := by decide +kernel
theorem dL_law_472 : decode cL_law 472 = .ok (.iadd, 1) := by decide +kernel
theorem dL_law_473 : decode cL_law 473 = .ok (.iaload, 1) := by decide +kernel
theorem dL_law_474 : decode cL_law 474 = .ok (.invokevirtual 58, 3) := by decide +kernel
theorem dL_law_477 : decode cL_law 477 = .ok (.if_icmp .eq 368, 3) := by decide +kernel
theorem dL_law_480 : decode cL_law 480 = .ok (.iconst 0, 1) := by decide +kernel
theorem dL_law_481 : decode cL_law 481 = .ok (.ireturn, 1) := by decide +kernel
theorem dL_law_482 : decode cL_law 482 = .ok (.aload_n 1, 1) := by decide +kernel
theorem dL_law_483 : decode cL_law 483 = .ok (.invokevirtual 59, 3) := by decide +kernel
theorem dL_law_486 : decode cL_law 486 = .ok (.aload_n 2, 1) := by decide +kernel
theorem dL_law_487 : decode cL_law 487 = .ok (.invokevirtual 63, 3) := by decide +kernel
theorem dL_law_490 : decode cL_law 490 = .ok (.if_icmp .eq 355, 3) := by decide +kernel
theorem dL_law_493 : decode cL_law 493 = .ok (.iconst 0, 1) := by decide +kernel
theorem dL_law_494 : decode cL_law 494 = .ok (.ireturn, 1) := by decide +kernel
theorem dL_law_495 : decode cL_law 495 = .ok (.aload_n 1, 1) := by decide +kernel
theorem dL_law_496 : decode cL_law 496 = .ok (.aload_n 0, 1) := by decide +kernel
theorem dL_law_497 : decode cL_law 497 = .ok (.iload_n 3, 1) := by decide +kernel
theorem dL_law_498 : decode cL_law 498 = .ok (.iconst 1, 1) := by decide +kernel
theorem dL_law_499 : decode cL_law 499 = .ok (.iadd, 1) := by decide +kernel
theorem dL_law_500 : decode cL_law 500 = .ok (.iaload, 1) := by decide +kernel
theorem dL_law_501 : decode cL_law 501 = .ok (.invokevirtual 64, 3) := by decide +kernel
theorem dL_law_504 : decode cL_law 504 = .ok (.aload_n 2, 1) := by decide +kernel
theorem dL_law_505 : decode cL_law 505 = .ok (.aload_n 0, 1) := by decide +kernel
theorem dL_law_506 : decode cL_law 506 = .ok (.iload_n 3, 1) := by decide +kernel
theorem dL_law_507 : decode cL_law 507 = .ok (.iconst 1, 1) := by decide +kernel
theorem dL_law_508 : decode cL_law 508 = .ok (.iadd, 1) := by decide +kernel
theorem dL_law_509 : decode cL_law 509 = .ok (.iaload, 1) := by decide +kernel
theorem dL_law_510 : decode cL_law 510 = .ok (.invokevirtual 67, 3) := by decide +kernel
theorem dL_law_513 : decode cL_law 513 = .ok (.if_icmp .eq 332, 3) := by decide +kernel
theorem dL_law_516 : decode cL_law 516 = .ok (.iconst 0, 1) := by decide +kernel
theorem dL_law_517 : decode cL_law 517 = .ok (.ireturn, 1) := by decide +kernel
theorem dL_law_518 : decode cL_law 518 = .ok (.aload_n 1, 1) := by decide +kernel
theorem dL_law_519 : decode cL_law 519 = .ok (.aload_n 0, 1) := by decide +kernel
theorem dL_law_520 : decode cL_law 520 = .ok (.iload_n 3, 1) := by decide +kernel
theorem dL_law_521 : decode cL_law 521 = .ok (.iconst 1, 1) := by decide +kernel
theorem dL_law_522 : decode cL_law 522 = .ok (.iadd, 1) := by decide +kernel
theorem dL_law_523 : decode cL_law 523 = .ok (.iaload, 1) := by decide +kernel
theorem dL_law_524 : decode cL_law 524 = .ok (.aload_n 0, 1) := by decide +kernel
theorem dL_law_525 : decode cL_law 525 = .ok (.iload_n 3, 1) := by decide +kernel
theorem dL_law_526 : decode cL_law 526 = .ok (.iconst 2, 1) := by decide +kernel
theorem dL_law_527 : decode cL_law 527 = .ok (.iadd, 1) := by decide +kernel
theorem dL_law_528 : decode cL_law 528 = .ok (.iaload, 1) := by decide +kernel
theorem dL_law_529 : decode cL_law 529 = .ok (.invokevirtual 68, 3) := by decide +kernel
theorem dL_law_532 : decode cL_law 532 = .ok (.aload_n 2, 1) := by decide +kernel
theorem dL_law_533 : decode cL_law 533 = .ok (.aload_n 0, 1) := by decide +kernel
theorem dL_law_534 : decode cL_law 534 = .ok (.iload_n 3, 1) := by decide +kernel
theorem dL_law_535 : decode cL_law 535 = .ok (.iconst 1, 1) := by decide +kernel
theorem dL_law_536 : decode cL_law 536 = .ok (.iadd, 1) := by decide +kernel
theorem dL_law_537 : decode cL_law 537 = .ok (.iaload, 1) := by decide +kernel
theorem dL_law_538 : decode cL_law 538 = .ok (.aload_n 0, 1) := by decide +kernel
theorem dL_law_539 : decode cL_law 539 = .ok (.iload_n 3, 1) := by decide +kernel
theorem dL_law_540 : decode cL_law 540 = .ok (.iconst 2, 1) := by decide +kernel
theorem dL_law_541 : decode cL_law 541 = .ok (.iadd, 1) := by decide +kernel
theorem dL_law_542 : decode cL_law 542 = .ok (.iaload, 1) := by decide +kernel
theorem dL_law_543 : decode cL_law 543 = .ok (.invokevirtual 71, 3) := by decide +kernel
theorem dL_law_546 : decode cL_law 546 = .ok (.if_icmp .eq 299, 3) := by decide +kernel
theorem dL_law_549 : decode cL_law 549 = .ok (.iconst 0, 1) := by decide +kernel
theorem dL_law_550 : decode cL_law 550 = .ok (.ireturn, 1) := by decide +kernel
theorem dL_law_551 : decode cL_law 551 = .ok (.aload_n 1, 1) := by decide +kernel
theorem dL_law_552 : decode cL_law 552 = .ok (.aload_n 0, 1) := by decide +kernel
theorem dL_law_553 : decode cL_law 553 = .ok (.iload_n 3, 1) := by decide +kernel
theorem dL_law_554 : decode cL_law 554 = .ok (.iconst 1, 1) := by decide +kernel
theorem dL_law_555 : decode cL_law 555 = .ok (.iadd, 1) := by decide +kernel
theorem dL_law_556 : decode cL_law 556 = .ok (.iaload, 1) := by decide +kernel
theorem dL_law_557 : decode cL_law 557 = .ok (.aload_n 0, 1) := by decide +kernel
theorem dL_law_558 : decode cL_law 558 = .ok (.iload_n 3, 1) := by decide +kernel
theorem dL_law_559 : decode cL_law 559 = .ok (.iconst 2, 1) := by decide +kernel
theorem dL_law_560 : decode cL_law 560 = .ok (.iadd, 1) := by decide +kernel
theorem dL_law_561 : decode cL_law 561 = .ok (.iaload, 1) := by decide +kernel
theorem dL_law_562 : decode cL_law 562 = .ok (.invokevirtual 72, 3) := by decide +kernel
theorem dL_law_565 : decode cL_law 565 = .ok (.aload_n 2, 1) := by decide +kernel
theorem dL_law_566 : decode cL_law 566 = .ok (.aload_n 0, 1) := by decide +kernel
theorem dL_law_567 : decode cL_law 567 = .ok (.iload_n 3, 1) := by decide +kernel
theorem dL_law_568 : decode cL_law 568 = .ok (.iconst 1, 1) := by decide +kernel
theorem dL_law_569 : decode cL_law 569 = .ok (.iadd, 1) := by decide +kernel
theorem dL_law_570 : decode cL_law 570 = .ok (.iaload, 1) := by decide +kernel
theorem dL_law_571 : decode cL_law 571 = .ok (.aload_n 0, 1) := by decide +kernel
theorem dL_law_572 : decode cL_law 572 = .ok (.iload_n 3, 1) := by decide +kernel
theorem dL_law_573 : decode cL_law 573 = .ok (.iconst 2, 1) := by decide +kernel
theorem dL_law_574 : decode cL_law 574 = .ok (.iadd, 1) := by decide +kernel
theorem dL_law_575 : decode cL_law 575 = .ok (.iaload, 1) := by decide +kernel
theorem dL_law_576 : decode cL_law 576 = .ok (.invokevirtual 75, 3) := by decide +kernel
theorem dL_law_579 : decode cL_law 579 = .ok (.if_icmp .eq 266, 3) := by decide +kernel
theorem dL_law_582 : decode cL_law 582 = .ok (.iconst 0, 1) := by decide +kernel
theorem dL_law_583 : decode cL_law 583 = .ok (.ireturn, 1) := by decide +kernel
theorem dL_law_584 : decode cL_law 584 = .ok (.aload_n 1, 1) := by decide +kernel
theorem dL_law_585 : decode cL_law 585 = .ok (.aload_n 0, 1) := by decide +kernel
theorem dL_law_586 : decode cL_law 586 = .ok (.iload_n 3, 1) := by decide +kernel
theorem dL_law_587 : decode cL_law 587 = .ok (.iconst 1, 1) := by decide +kernel
theorem dL_law_588 : decode cL_law 588 = .ok (.iadd, 1) := by decide +kernel
theorem dL_law_589 : decode cL_law 589 = .ok (.iaload, 1) := by decide +kernel
theorem dL_law_590 : decode cL_law 590 = .ok (.aload_n 0, 1) := by decide +kernel
theorem dL_law_591 : decode cL_law 591 = .ok (.iload_n 3, 1) := by decide +kernel
theorem dL_law_592 : decode cL_law 592 = .ok (.iconst 2, 1) := by decide +kernel
theorem dL_law_593 : decode cL_law 593 = .ok (.iadd, 1) := by decide +kernel
theorem dL_law_594 : decode cL_law 594 = .ok (.iaload, 1) := by decide +kernel
theorem dL_law_595 : decode cL_law 595 = .ok (.invokevirtual 76, 3) := by decide +kernel
theorem dL_law_598 : decode cL_law 598 = .ok (.aload_n 2, 1) := by decide +kernel
theorem dL_law_599 : decode cL_law 599 = .ok (.aload_n 0, 1) := by decide +kernel
theorem dL_law_600 : decode cL_law 600 = .ok (.iload_n 3, 1) := by decide +kernel
theorem dL_law_601 : decode cL_law 601 = .ok (.iconst 1, 1) := by decide +kernel
theorem dL_law_602 : decode cL_law 602 = .ok (.iadd, 1) := by decide +kernel
theorem dL_law_603 : decode cL_law 603 = .ok (.iaload, 1) := by decide +kernel
theorem dL_law_604 : decode cL_law 604 = .ok (.aload_n 0, 1) := by decide +kernel
theorem dL_law_605 : decode cL_law 605 = .ok (.iload_n 3, 1) := by decide +kernel
theorem dL_law_606 : decode cL_law 606 = .ok (.iconst 2, 1) := by decide +kernel
theorem dL_law_607 : decode cL_law 607 = .ok (.iadd, 1) := by decide +kernel
theorem dL_law_608 : decode cL_law 608 = .ok (.iaload, 1) := by decide +kernel
theorem dL_law_609 : decode cL_law 609 = .ok (.invokevirtual 79, 3) := by decide +kernel
theorem dL_law_612 : decode cL_law 612 = .ok (.if_icmp .eq 233, 3) := by decide +kernel
theorem dL_law_615 : decode cL_law 615 = .ok (.iconst 0, 1) := by decide +kernel
theorem dL_law_616 : decode cL_law 616 = .ok (.ireturn, 1) := by decide +kernel
theorem dL_law_617 : decode cL_law 617 = .ok (.aload_n 1, 1) := by decide +kernel
theorem dL_law_618 : decode cL_law 618 = .ok (.aload_n 0, 1) := by decide +kernel
theorem dL_law_619 : decode cL_law 619 = .ok (.iload_n 3, 1) := by decide +kernel
theorem dL_law_620 : decode cL_law 620 = .ok (.iconst 1, 1) := by decide +kernel
theorem dL_law_621 : decode cL_law 621 = .ok (.iadd, 1) := by decide +kernel
theorem dL_law_622 : decode cL_law 622 = .ok (.iaload, 1) := by decide +kernel
theorem dL_law_623 : decode cL_law 623 = .ok (.invokevirtual 80, 3) := by decide +kernel
theorem dL_law_626 : decode cL_law 626 = .ok (.aload_n 2, 1) := by decide +kernel
theorem dL_law_627 : decode cL_law 627 = .ok (.aload_n 0, 1) := by decide +kernel
theorem dL_law_628 : decode cL_law 628 = .ok (.iload_n 3, 1) := by decide +kernel
theorem dL_law_629 : decode cL_law 629 = .ok (.iconst 1, 1) := by decide +kernel
theorem dL_law_630 : decode cL_law 630 = .ok (.iadd, 1) := by decide +kernel
theorem dL_law_631 : decode cL_law 631 = .ok (.iaload, 1) := by decide +kernel
theorem dL_law_632 : decode cL_law 632 = .ok (.invokevirtual 83, 3) := by decide +kernel
theorem dL_law_635 : decode cL_law 635 = .ok (.if_icmp .eq 210, 3) := by decide +kernel
theorem dL_law_638 : decode cL_law 638 = .ok (.iconst 0, 1) := by decide +kernel
theorem dL_law_639 : decode cL_law 639 = .ok (.ireturn, 1) := by decide +kernel
theorem dL_law_640 : decode cL_law 640 = .ok (.aload_n 1, 1) := by decide +kernel
theorem dL_law_641 : decode cL_law 641 = .ok (.aload_n 0, 1) := by decide +kernel
theorem dL_law_642 : decode cL_law 642 = .ok (.iload_n 3, 1) := by decide +kernel
theorem dL_law_643 : decode cL_law 643 = .ok (.iconst 1, 1) := by decide +kernel
theorem dL_law_644 : decode cL_law 644 = .ok (.iadd, 1) := by decide +kernel
theorem dL_law_645 : decode cL_law 645 = .ok (.iaload, 1) := by decide +kernel
theorem dL_law_646 : decode cL_law 646 = .ok (.aload_n 0, 1) := by decide +kernel
theorem dL_law_647 : decode cL_law 647 = .ok (.iload_n 3, 1) := by decide +kernel
theorem dL_law_648 : decode cL_law 648 = .ok (.iconst 2, 1) := by decide +kernel
theorem dL_law_649 : decode cL_law 649 = .ok (.iadd, 1) := by decide +kernel
theorem dL_law_650 : decode cL_law 650 = .ok (.iaload, 1) := by decide +kernel
theorem dL_law_651 : decode cL_law 651 = .ok (.aload_n 0, 1) := by decide +kernel
theorem dL_law_652 : decode cL_law 652 = .ok (.iload_n 3, 1) := by decide +kernel
theorem dL_law_653 : decode cL_law 653 = .ok (.iconst 3, 1) := by decide +kernel
theorem dL_law_654 : decode cL_law 654 = .ok (.iadd, 1) := by decide +kernel
theorem dL_law_655 : decode cL_law 655 = .ok (.iaload, 1) := by decide +kernel
theorem dL_law_656 : decode cL_law 656 = .ok (.invokevirtual 84, 3) := by decide +kernel
theorem dL_law_659 : decode cL_law 659 = .ok (.aload_n 2, 1) := by decide +kernel
theorem dL_law_660 : decode cL_law 660 = .ok (.aload_n 0, 1) := by decide +kernel
theorem dL_law_661 : decode cL_law 661 = .ok (.iload_n 3, 1) := by decide +kernel
theorem dL_law_662 : decode cL_law 662 = .ok (.iconst 1, 1) := by decide +kernel
theorem dL_law_663 : decode cL_law 663 = .ok (.iadd, 1) := by decide +kernel
theorem dL_law_664 : decode cL_law 664 = .ok (.iaload, 1) := by decide +kernel
theorem dL_law_665 : decode cL_law 665 = .ok (.aload_n 0, 1) := by decide +kernel
theorem dL_law_666 : decode cL_law 666 = .ok (.iload_n 3, 1) := by decide +kernel
theorem dL_law_667 : decode cL_law 667 = .ok (.iconst 2, 1) := by decide +kernel
theorem dL_law_668 : decode cL_law 668 = .ok (.iadd, 1) := by decide +kernel
theorem dL_law_669 : decode cL_law 669 = .ok (.iaload, 1) := by decide +kernel
theorem dL_law_670 : decode cL_law 670 = .ok (.aload_n 0, 1) := by decide +kernel
theorem dL_law_671 : decode cL_law 671 = .ok (.iload_n 3, 1) := by decide +kernel
theorem dL_law_672 : decode cL_law 672 = .ok (.iconst 3, 1) := by decide +kernel
theorem dL_law_673 : decode cL_law 673 = .ok (.iadd, 1) := by decide +kernel
theorem dL_law_674 : decode cL_law 674 = .ok (.iaload, 1) := by decide +kernel
theorem dL_law_675 : decode cL_law 675 = .ok (.invokevirtual 88, 3) := by decide +kernel
theorem dL_law_678 : decode cL_law 678 = .ok (.if_icmp .eq 167, 3) := by decide +kernel
theorem dL_law_681 : decode cL_law 681 = .ok (.iconst 0, 1) := by decide +kernel
theorem dL_law_682 : decode cL_law 682 = .ok (.ireturn, 1) := by decide +kernel
theorem dL_law_683 : decode cL_law 683 = .ok (.aload_n 1, 1) := by decide +kernel
theorem dL_law_684 : decode cL_law 684 = .ok (.aload_n 0, 1) := by decide +kernel
theorem dL_law_685 : decode cL_law 685 = .ok (.iload_n 3, 1) := by decide +kernel
theorem dL_law_686 : decode cL_law 686 = .ok (.iconst 1, 1) := by decide +kernel
theorem dL_law_687 : decode cL_law 687 = .ok (.iadd, 1) := by decide +kernel
theorem dL_law_688 : decode cL_law 688 = .ok (.iaload, 1) := by decide +kernel
theorem dL_law_689 : decode cL_law 689 = .ok (.aload_n 0, 1) := by decide +kernel
theorem dL_law_690 : decode cL_law 690 = .ok (.iload_n 3, 1) := by decide +kernel
theorem dL_law_691 : decode cL_law 691 = .ok (.iconst 2, 1) := by decide +kernel
theorem dL_law_692 : decode cL_law 692 = .ok (.iadd, 1) := by decide +kernel
theorem dL_law_693 : decode cL_law 693 = .ok (.iaload, 1) := by decide +kernel
theorem dL_law_694 : decode cL_law 694 = .ok (.aload_n 0, 1) := by decide +kernel
theorem dL_law_695 : decode cL_law 695 = .ok (.iload_n 3, 1) := by decide +kernel
theorem dL_law_696 : decode cL_law 696 = .ok (.iconst 3, 1) := by decide +kernel
theorem dL_law_697 : decode cL_law 697 = .ok (.iadd, 1) := by decide +kernel
theorem dL_law_698 : decode cL_law 698 = .ok (.iaload, 1) := by decide +kernel
theorem dL_law_699 : decode cL_law 699 = .ok (.aload_n 0, 1) := by decide +kernel
theorem dL_law_700 : decode cL_law 700 = .ok (.iload_n 3, 1) := by decide +kernel
theorem dL_law_701 : decode cL_law 701 = .ok (.iconst 4, 1) := by decide +kernel
theorem dL_law_702 : decode cL_law 702 = .ok (.iadd, 1) := by decide +kernel
theorem dL_law_703 : decode cL_law 703 = .ok (.iaload, 1) := by decide +kernel
theorem dL_law_704 : decode cL_law 704 = .ok (.invokevirtual 89, 3) := by decide +kernel
theorem dL_law_707 : decode cL_law 707 = .ok (.aload_n 2, 1) := by decide +kernel
theorem dL_law_708 : decode cL_law 708 = .ok (.aload_n 0, 1) := by decide +kernel
theorem dL_law_709 : decode cL_law 709 = .ok (.iload_n 3, 1) := by decide +kernel
theorem dL_law_710 : decode cL_law 710 = .ok (.iconst 1, 1) := by decide +kernel
theorem dL_law_711 : decode cL_law 711 = .ok (.iadd, 1) := by decide +kernel
theorem dL_law_712 : decode cL_law 712 = .ok (.iaload, 1) := by decide +kernel
theorem dL_law_713 : decode cL_law 713 = .ok (.aload_n 0, 1) := by decide +kernel
theorem dL_law_714 : decode cL_law 714 = .ok (.iload_n 3, 1) := by decide +kernel
theorem dL_law_715 : decode cL_law 715 = .ok (.iconst 2, 1) := by decide +kernel
theorem dL_law_716 : decode cL_law 716 = .ok (.iadd, 1) := by decide +kernel
theorem dL_law_717 : decode cL_law 717 = .ok (.iaload, 1) := by decide +kernel
theorem dL_law_718 : decode cL_law 718 = .ok (.aload_n 0, 1) := by decide +kernel
theorem dL_law_719 : decode cL_law 719 = .ok (.iload_n 3, 1) := by decide +kernel
theorem dL_law_720 : decode cL_law 720 = .ok (.iconst 3, 1) := by decide +kernel
theorem dL_law_721 : decode cL_law 721 = .ok (.iadd, 1) := by decide +kernel
theorem dL_law_722 : decode cL_law 722 = .ok (.iaload, 1) := by decide +kernel
theorem dL_law_723 : decode cL_law 723 = .ok (.aload_n 0, 1) := by decide +kernel
theorem dL_law_724 : decode cL_law 724 = .ok (.iload_n 3, 1) := by decide +kernel
theorem dL_law_725 : decode cL_law 725 = .ok (.iconst 4, 1) := by decide +kernel
theorem dL_law_726 : decode cL_law 726 = .ok (.iadd, 1) := by decide +kernel
theorem dL_law_727 : decode cL_law 727 = .ok (.iaload, 1) := by decide +kernel
theorem dL_law_728 : decode cL_law 728 = .ok (.invokevirtual 93, 3) := by decide +kernel
theorem dL_law_731 : decode cL_law 731 = .ok (.if_icmp .eq 114, 3) := by decide +kernel
theorem dL_law_734 : decode cL_law 734 = .ok (.iconst 0, 1) := by decide +kernel
theorem dL_law_735 : decode cL_law 735 = .ok (.ireturn, 1) := by decide +kernel
theorem dL_law_736 : decode cL_law 736 = .ok (.aload_n 1, 1) := by decide +kernel
theorem dL_law_737 : decode cL_law 737 = .ok (.aload_n 0, 1) := by decide +kernel
theorem dL_law_738 : decode cL_law 738 = .ok (.iload_n 3, 1) := by decide +kernel
theorem dL_law_739 : decode cL_law 739 = .ok (.iconst 1, 1) := by decide +kernel
theorem dL_law_740 : decode cL_law 740 = .ok (.iadd, 1) := by decide +kernel
theorem dL_law_741 : decode cL_law 741 = .ok (.iaload, 1) := by decide +kernel
theorem dL_law_742 : decode cL_law 742 = .ok (.aload_n 0, 1) := by decide +kernel
theorem dL_law_743 : decode cL_law 743 = .ok (.iload_n 3, 1) := by decide +kernel
theorem dL_law_744 : decode cL_law 744 = .ok (.iconst 2, 1) := by decide +kernel
theorem dL_law_745 : decode cL_law 745 = .ok (.iadd, 1) := by decide +kernel
theorem dL_law_746 : decode cL_law 746 = .ok (.iaload, 1) := by decide +kernel
theorem dL_law_747 : decode cL_law 747 = .ok (.aload_n 0, 1) := by decide +kernel
theorem dL_law_748 : decode cL_law 748 = .ok (.iload_n 3, 1) := by decide +kernel
theorem dL_law_749 : decode cL_law 749 = .ok (.iconst 3, 1) := by decide +kernel
theorem dL_law_750 : decode cL_law 750 = .ok (.iadd, 1) := by decide +kernel
theorem dL_law_751 : decode cL_law 751 = .ok (.iaload, 1) := by decide +kernel
theorem dL_law_752 : decode cL_law 752 = .ok (.aload_n 0, 1) := by decide +kernel
theorem dL_law_753 : decode cL_law 753 = .ok (.iload_n 3, 1) := by decide +kernel
theorem dL_law_754 : decode cL_law 754 = .ok (.iconst 4, 1) := by decide +kernel
theorem dL_law_755 : decode cL_law 755 = .ok (.iadd, 1) := by decide +kernel
theorem dL_law_756 : decode cL_law 756 = .ok (.iaload, 1) := by decide +kernel
theorem dL_law_757 : decode cL_law 757 = .ok (.aload_n 0, 1) := by decide +kernel
theorem dL_law_758 : decode cL_law 758 = .ok (.iload_n 3, 1) := by decide +kernel
theorem dL_law_759 : decode cL_law 759 = .ok (.iconst 5, 1) := by decide +kernel
theorem dL_law_760 : decode cL_law 760 = .ok (.iadd, 1) := by decide +kernel
theorem dL_law_761 : decode cL_law 761 = .ok (.iaload, 1) := by decide +kernel
theorem dL_law_762 : decode cL_law 762 = .ok (.invokevirtual 94, 3) := by decide +kernel
theorem dL_law_765 : decode cL_law 765 = .ok (.aload_n 2, 1) := by decide +kernel
theorem dL_law_766 : decode cL_law 766 = .ok (.aload_n 0, 1) := by decide +kernel
theorem dL_law_767 : decode cL_law 767 = .ok (.iload_n 3, 1) := by decide +kernel
theorem dL_law_768 : decode cL_law 768 = .ok (.iconst 1, 1) := by decide +kernel
theorem dL_law_769 : decode cL_law 769 = .ok (.iadd, 1) := by decide +kernel
theorem dL_law_770 : decode cL_law 770 = .ok (.iaload, 1) := by decide +kernel
theorem dL_law_771 : decode cL_law 771 = .ok (.aload_n 0, 1) := by decide +kernel
theorem dL_law_772 : decode cL_law 772 = .ok (.iload_n 3, 1) := by decide +kernel
theorem dL_law_773 : decode cL_law 773 = .ok (.iconst 2, 1) := by decide +kernel
theorem dL_law_774 : decode cL_law 774 = .ok (.iadd, 1) := by decide +kernel
theorem dL_law_775 : decode cL_law 775 = .ok (.iaload, 1) := by decide +kernel
theorem dL_law_776 : decode cL_law 776 = .ok (.aload_n 0, 1) := by decide +kernel
theorem dL_law_777 : decode cL_law 777 = .ok (.iload_n 3, 1) := by decide +kernel
theorem dL_law_778 : decode cL_law 778 = .ok (.iconst 3, 1) := by decide +kernel
theorem dL_law_779 : decode cL_law 779 = .ok (.iadd, 1) := by decide +kernel
theorem dL_law_780 : decode cL_law 780 = .ok (.iaload, 1) := by decide +kernel
theorem dL_law_781 : decode cL_law 781 = .ok (.aload_n 0, 1) := by decide +kernel
theorem dL_law_782 : decode cL_law 782 = .ok (.iload_n 3, 1) := by decide +kernel
theorem dL_law_783 : decode cL_law 783 = .ok (.iconst 4, 1) := by decide +kernel
theorem dL_law_784 : decode cL_law 784 = .ok (.iadd, 1) := by decide +kernel
theorem dL_law_785 : decode cL_law 785 = .ok (.iaload, 1) := by decide +kernel
theorem dL_law_786 : decode cL_law 786 = .ok (.aload_n 0, 1) := by decide +kernel
theorem dL_law_787 : decode cL_law 787 = .ok (.iload_n 3, 1) := by decide +kernel
theorem dL_law_788 : decode cL_law 788 = .ok (.iconst 5, 1) := by decide +kernel
theorem dL_law_789 : decode cL_law 789 = .ok (.iadd, 1) := by decide +kernel
theorem dL_law_790 : decode cL_law 790 = .ok (.iaload, 1) := by decide +kernel
theorem dL_law_791 : decode cL_law 791 = .ok (.invokevirtual 97, 3) := by decide +kernel
theorem dL_law_794 : decode cL_law 794 = .ok (.if_icmp .eq 51, 3) := by decide +kernel
theorem dL_law_797 : decode cL_law 797 = .ok (.iconst 0, 1) := by decide +kernel
theorem dL_law_798 : decode cL_law 798 = .ok (.ireturn, 1) := by decide +kernel
theorem dL_law_799 : decode cL_law 799 = .ok (.aload_n 1, 1) := by decide +kernel
theorem dL_law_800 : decode cL_law 800 = .ok (.aload_n 0, 1) := by decide +kernel
theorem dL_law_801 : decode cL_law 801 = .ok (.iload_n 3, 1) := by decide +kernel
theorem dL_law_802 : decode cL_law 802 = .ok (.iconst 1, 1) := by decide +kernel
theorem dL_law_803 : decode cL_law 803 = .ok (.iadd, 1) := by decide +kernel
theorem dL_law_804 : decode cL_law 804 = .ok (.iaload, 1) := by decide +kernel
theorem dL_law_805 : decode cL_law 805 = .ok (.invokevirtual 98, 3) := by decide +kernel
theorem dL_law_808 : decode cL_law 808 = .ok (.aload_n 2, 1) := by decide +kernel
theorem dL_law_809 : decode cL_law 809 = .ok (.aload_n 0, 1) := by decide +kernel
theorem dL_law_810 : decode cL_law 810 = .ok (.iload_n 3, 1) := by decide +kernel
theorem dL_law_811 : decode cL_law 811 = .ok (.iconst 1, 1) := by decide +kernel
theorem dL_law_812 : decode cL_law 812 = .ok (.iadd, 1) := by decide +kernel
theorem dL_law_813 : decode cL_law 813 = .ok (.iaload, 1) := by decide +kernel
theorem dL_law_814 : decode cL_law 814 = .ok (.invokevirtual 101, 3) := by decide +kernel
theorem dL_law_817 : decode cL_law 817 = .ok (.if_icmp .eq 28, 3) := by decide +kernel
theorem dL_law_820 : decode cL_law 820 = .ok (.iconst 0, 1) := by decide +kernel
theorem dL_law_821 : decode cL_law 821 = .ok (.ireturn, 1) := by decide +kernel
theorem dL_law_822 : decode cL_law 822 = .ok (.aload_n 1, 1) := by decide +kernel
theorem dL_law_823 : decode cL_law 823 = .ok (.aload_n 0, 1) := by decide +kernel
theorem dL_law_824 : decode cL_law 824 = .ok (.iload_n 3, 1) := by decide +kernel
theorem dL_law_825 : decode cL_law 825 = .ok (.iconst 1, 1) := by decide +kernel
theorem dL_law_826 : decode cL_law 826 = .ok (.iadd, 1) := by decide +kernel
theorem dL_law_827 : decode cL_law 827 = .ok (.iaload, 1) := by decide +kernel
theorem dL_law_828 : decode cL_law 828 = .ok (.invokevirtual 102, 3) := by decide +kernel
theorem dL_law_831 : decode cL_law 831 = .ok (.aload_n 2, 1) := by decide +kernel
theorem dL_law_832 : decode cL_law 832 = .ok (.aload_n 0, 1) := by decide +kernel
theorem dL_law_833 : decode cL_law 833 = .ok (.iload_n 3, 1) := by decide +kernel
theorem dL_law_834 : decode cL_law 834 = .ok (.iconst 1, 1) := by decide +kernel
theorem dL_law_835 : decode cL_law 835 = .ok (.iadd, 1) := by decide +kernel
theorem dL_law_836 : decode cL_law 836 = .ok (.iaload, 1) := by decide +kernel
theorem dL_law_837 : decode cL_law 837 = .ok (.invokevirtual 105, 3) := by decide +kernel
theorem dL_law_840 : decode cL_law 840 = .ok (.if_icmp .eq 5, 3) := by decide +kernel
theorem dL_law_843 : decode cL_law 843 = .ok (.iconst 0, 1) := by decide +kernel
theorem dL_law_844 : decode cL_law 844 = .ok (.ireturn, 1) := by decide +kernel
theorem dL_law_845 : decode cL_law 845 = .ok (.iinc 3 6, 3) := by decide +kernel
theorem dL_law_848 : decode cL_law 848 = .ok (.goto (-820), 3) := by decide +kernel
theorem dL_law_851 : decode cL_law 851 = .ok (.iconst 1, 1) := by decide +kernel
theorem dL_law_852 : decode cL_law 852 = .ok (.ireturn, 1) := by decide +kernel
end
section
/-! ===== the heap as two functions (whole numbers, references) over shapes; every method of the class and of the reference is read off its bytecode as a function over it (parts 04 on, by wip/whole/gen.py) ===== -/
abbrev Sh : Type := Nat ⊕ (FieldType × Nat)
/-- size; shapes; whole numbers; references -/
abbrev AH : Type := Nat × (Nat → Option Sh) × (Nat → Nat → Int32) × (Nat → Nat → Option Nat)
abbrev RG : Type := (Nat → ClassId) × (Nat → Nat → Nat) × (FieldType → ClassId) × (Nat → Nat) × (Nat → Nat)
def r_ty (ci k : Nat) : FieldType := match ci with
  | 0 => tyX0 k
  | 1 => tyX1 k
  | 2 => tyX2 k
  | 3 => tyX3 k
  | 4 => tyX4 k
  | 5 => tyX5 k
  | 6 => tyX6 k
  | 7 => tyX7 k
  | _ => tyX8 k
def r_val (ty : FieldType) (x : Int32) (r : Option Nat) : Value := match ty with
  | .object _ => va_rf r
  | .array _ => va_rf r
  | _ => .int x
def r_at (D : RG) (h : AH) (a : Nat) (s : Sh) (H : Heap) : Prop := match s with
  | .inl ci => ∃ q : vw_C, vwCl[ci]? = some q ∧ t_OB a (D.1 ci) q.2.2 (D.2.1 ci) H (fun k => r_val (r_ty ci k) (h.2.2.1 a k) (h.2.2.2 a k))
  | .inr t => H[a]? = some (arrV (D.2.2.1 t.1) t.2 (fun k => r_val t.1 (h.2.2.1 a k) (h.2.2.2 a k)))
/-- nest mates' constructors -/
def r_nw : List Cond := [.methodLinkNest RX7 17 yX6_init RX7, .methodLinkNest RX7 24 yX0_init RX7, .methodLinkNest RX7 34 yX4_init RX7, .methodLinkNest RX5 11 yX3_init RX7, .methodLinkNest RX2 11 yX4_init RX7]
def r_tys : List FieldType := [.int, .byte, .boolean, .object RX5, .object RX1]
/-- the literals: place in Tape's pool, text; lengths; bytes -/
def r_lit : List (Nat × String) := [(50, "first"), (59, "near"), (67, "hold"), (71, "fair"), (76, "temple"), (81, "small")]
def r_len : List Nat := [5, 4, 4, 4, 6, 5]
def r_byt : List (List Int32) := [[102, 105, 114, 115, 116], [110, 101, 97, 114], [104, 111, 108, 100], [102, 97, 105, 114], [116, 101, 109, 112, 108, 101], [115, 109, 97, 108, 108]]
def r_K (D : RG) (U : State) : Prop := va_K (D.1, D.2.1) vwCl [] U ∧ (∀ ty ∈ r_tys, ArrOfT U (D.2.2.1 ty) ty ∧ va_RA U (D.2.2.1 ty) ty) ∧ (∀ w ∈ r_nw, va_Nw w U) ∧ ∀ i, i < 6 → vk_R RX6 (r_lit.getD i (0, "")).1 (r_lit.getD i (0, "")).2 (D.2.2.2.1 i) U
/-- what lies below b and is never written: the literals, the JDK's statics -/
def r_E (D : RG) (b : Nat) (U : State) (H : Heap) : Prop := va_Z "java/lang/String" "COMPACT_STRINGS" "Z" (.int 1) (fun q => b ≤ q) U H ∧ va_Zq "jdk/internal/util/Preconditions" "SIOOBE_FORMATTER" "Ljava/util/function/BiFunction;" (fun q => b ≤ q) U H ∧ vk_S 6 r_len r_byt D.2.2.2.1 D.2.2.2.2 (fun q => b ≤ q) U H
def r_P (D : RG) (b : Nat) (h : AH) (H : Heap) : Prop := H.size = h.1 ∧ ∀ (a : Nat) (t : Sh), h.2.1 a = some t → b ≤ a ∧ r_at D h a t H
/-- a method's start -/
def r_I (D : RG) (b : Nat) (h : AH) (U : State) : Prop := r_K D U ∧ r_E D b U U.heap ∧ b ≤ U.heap.size ∧ r_P D b h U.heap
/-- a method's end -/
def r_Q (D : RG) (b : Nat) (v : Option Value) (h : AH) : Array Value → State → Outcome → State → Prop := fun _ st oc t => oc = .returned v ∧ r_P D b h t.heap ∧ va_F (fun q => b ≤ q) st t
/-- what stands while a method runs -/
def r_C (p : Program) (c : Code) (cc : ByteArray) (nL : Nat) (s : State) (m : MethodId) (args : Array Value) (own : String) (D : RG) (b : Nat) : Prop := CallFix p m c cc nL s args wsL_law own ∧ r_K D s ∧ r_E D b s s.heap ∧ b ≤ s.heap.size
def r_B (D : RG) (b : Nat) (s : State) (h : AH) (H : Heap) (locs : List Loc) : Prop := r_P D b h H ∧ va_S (fun q => b ≤ q) s.heap H locs
theorem r_K.warm {D : RG} {s U : State} (hW : s.WarmedH U.vm) (h : r_K D s) : r_K D U := by
  obtain ⟨h1, h2, h3, h5⟩ := h
  refine ⟨va_K.moved hW.alike h1, fun ty ht => ⟨arrOfT_moved hW.alike (h2 ty ht).1, (h2 ty ht).2.moved hW.alike⟩, fun w hw => ?_, fun i hi => vk_R.warm hW (h5 i hi)⟩
  have h4 := h3 w hw
  simp only [r_nw, List.mem_cons, List.not_mem_nil, or_false] at hw
  rcases hw with rfl | rfl | rfl | rfl | rfl <;> exact va_Nw.warmM hW h4
theorem r_K.same {D : RG} {s U : State} (hv : s.vm = U.vm) (h : r_K D s) : r_K D U := by
  obtain ⟨h1, h2, h3, h5⟩ := h
  have hW : s.vm.Alike U.vm := by rw [← hv]; exact Vm.Alike.refl _
  refine ⟨va_K.moved hW h1, fun ty ht => ⟨arrOfT_moved hW (h2 ty ht).1, (h2 ty ht).2.moved hW⟩, fun w hw => ?_, fun i hi => vk_R.same hv.symm (h5 i hi)⟩
  have h4 := h3 w hw
  simp only [r_nw, List.mem_cons, List.not_mem_nil, or_false] at hw
  rcases hw with rfl | rfl | rfl | rfl | rfl <;> exact va_Nw.same rfl hv h4
theorem r_E.go {D : RG} {b : Nat} {s U : State} {H0 H : Heap} (hv : s.vm.Alike U.vm) (hq : ∀ q : Nat, q < H0.size → ¬ b ≤ q → H[q]? = H0[q]?) (h : r_E D b s H0) : r_E D b U H :=
  ⟨va_Z.moved hv (h.1.kept hq), va_Zq.moved hv (h.2.1.kept hq), vk_S.moved hv (h.2.2.kept hq)⟩
theorem r_blind {D : RG} {b : Nat} {h : AH} (As : List Value) : FrameBlind (va_Pc As (r_I D b h)) := by
  intro a U g mk q
  obtain ⟨q1, q2, q3, q4, q5⟩ := q
  exact ⟨q1, r_K.same (s := U) (U := U.calling g mk a) rfl q2, r_E.go (s := U) (U := U.calling g mk a) (Vm.Alike.refl U.vm) (fun _ _ _ => rfl) q3, q4, q5⟩
theorem r_go {p : Program} {c : Code} {cc : ByteArray} {nL : Nat} {s : State} {m : MethodId} {args : Array Value} {own : String} {D : RG} {b : Nat} {h : AH} {H : Heap} {locs : List Loc} (X : r_C p c cc nL s m args own D b) (B : r_B D b s h H locs) {U : State} (hU : U.heap = H) (hW : s.WarmedH U.vm) : r_I D b h U :=
  ⟨r_K.warm hW X.2.1, by rw [hU]; exact r_E.go hW.alike B.2.2.1 X.2.2.1, by rw [hU]; exact Nat.le_trans X.2.2.2 B.2.1, by rw [hU]; exact B.1⟩
theorem wsL_good : wsL_law.all goodWord = true := by decide +kernel
theorem r_good {y : MethodName} {cc : ByteArray} {n : Nat} {ret : Option FieldType} (h : Cond.code y cc n ret ∈ wsL_law) : GoodIn wsL_law (Cond.code y cc n ret :: wsL_law) := by
  refine goodIn_sub (fun w hw => ?_) ?_
  · rcases List.mem_cons.mp hw with e | e
    · rw [e]; exact h
    · exact e
  · rw [List.all_cons, wsL_good, Bool.and_true]
    exact List.all_eq_true.mp wsL_good _ h
/-! heaps -/
def u2 {α : Type} (f : Nat → Nat → α) (a k : Nat) (x : α) : Nat → Nat → α := fun a' k' => if a' = a ∧ k' = k then x else f a' k'
def setI (h : AH) (a k : Nat) (x : Int32) : AH := (h.1, h.2.1, u2 h.2.2.1 a k x, h.2.2.2)
def setR (h : AH) (a k : Nat) (x : Option Nat) : AH := (h.1, h.2.1, h.2.2.1, u2 h.2.2.2 a k x)
def newS (h : AH) (t : Sh) : AH := (h.1 + 1, fun a => if a = h.1 then some t else h.2.1 a, fun a k => if a = h.1 then 0 else h.2.2.1 a k, fun a k => if a = h.1 then none else h.2.2.2 a k)
theorem u2_ne {α : Type} (f : Nat → Nat → α) {a k : Nat} (x : α) {a' : Nat} (h : a' ≠ a) : (u2 f a k x) a' = f a' := by
  funext k'
  simp [u2, h]
theorem u2_eq {α : Type} (f : Nat → Nat → α) (a k : Nat) (x : α) (k' : Nat) : u2 f a k x a k' = if k' = k then x else f a k' := by simp [u2]
theorem r_at.kept {D : RG} {h h' : AH} {a : Nat} {t : Sh} {H H' : Heap} (q : r_at D h a t H) (e : H'[a]? = H[a]?) (e1 : h'.2.2.1 a = h.2.2.1 a) (e2 : h'.2.2.2 a = h.2.2.2 a) : r_at D h' a t H' := by
  cases t with
  | inl ci =>
    obtain ⟨r, h1, h2⟩ := q
    refine ⟨r, h1, ?_⟩
    rw [e1, e2]
    exact h2.kept e
  | inr t =>
    show H'[a]? = _
    rw [e, e1, e2]
    exact q
theorem r_at.lt {D : RG} {h : AH} {a : Nat} {t : Sh} {H : Heap} (q : r_at D h a t H) : a < H.size := by
  cases t with
  | inl ci =>
    obtain ⟨r, h1, cell, h2, -⟩ := q
    exact (Array.getElem?_eq_some_iff.mp h2).1
  | inr t => exact (Array.getElem?_eq_some_iff.mp q).1
/-- one cell is written -/
theorem r_B.put {D : RG} {b : Nat} {s : State} {h h' : AH} {H H' : Heap} {locs : List Loc} (B : r_B D b s h H locs) {a i : Nat} {t : Sh} (ht : h.2.1 a = some t) (hz : H'.size = H.size) (oq : ∀ q : Nat, q ≠ a → H'[q]? = H[q]?) (e0 : h'.1 = h.1) (e1 : h'.2.1 = h.2.1) (e2 : ∀ q, q ≠ a → h'.2.2.1 q = h.2.2.1 q) (e3 : ∀ q, q ≠ a → h'.2.2.2 q = h.2.2.2 q) (ha : r_at D h' a t H') : r_B D b s h' H' (locs ++ [⟨a, i⟩]) := by
  obtain ⟨⟨z, P⟩, S⟩ := B
  refine ⟨⟨by rw [hz, e0]; exact z, fun q u hq => ?_⟩, S.put hz oq (P a t ht).1⟩
  rw [e1] at hq
  by_cases e : q = a
  · subst e
    cases hq.symm.trans ht
    exact ⟨(P _ _ ht).1, ha⟩
  · exact ⟨(P q u hq).1, (P q u hq).2.kept (oq q e) (e2 q e) (e3 q e)⟩
/-- a cell comes -/
theorem r_B.new {D : RG} {b : Nat} {s : State} {h : AH} {H H' : Heap} {locs : List Loc} (B : r_B D b s h H locs) (hb : b ≤ s.heap.size) {t : Sh} (hz : H'.size = h.1 + 1) (oq : ∀ q : Nat, q < h.1 → H'[q]? = H[q]?) (ha : r_at D (newS h t) h.1 t H') : r_B D b s (newS h t) H' locs := by
  obtain ⟨⟨z, P⟩, S⟩ := B
  refine ⟨⟨hz, fun q u hq => ?_⟩, by rw [hz, ← z]; exact Nat.le_succ_of_le S.1, fun q h1 h2 => ?_, S.2.2⟩
  · by_cases e : q = h.1
    · subst e
      have : u = t := by simpa [newS] using hq.symm
      subst this
      exact ⟨by rw [← z]; exact Nat.le_trans hb S.1, ha⟩
    · have hq' : h.2.1 q = some u := by simpa [newS, e] using hq
      have hl := (P q u hq').2.lt
      exact ⟨(P q u hq').1, (P q u hq').2.kept (oq q (by omega)) (by funext k; simp [newS, e]) (by funext k; simp [newS, e])⟩
  · rw [oq q (by have := S.1; omega)]
    exact S.2.1 q h1 h2
/-! what a program does, as a function -/
section FN
variable {α β : Type}
def gI (h : AH) (r : Option Nat) (ci k : Nat) (K : Int32 → Option α) : Option α := match r with
  | none => none
  | some a => if h.2.1 a = some (.inl ci) then K (h.2.2.1 a k) else none
def gR (h : AH) (r : Option Nat) (ci k : Nat) (K : Option Nat → Option α) : Option α := match r with
  | none => none
  | some a => if h.2.1 a = some (.inl ci) then K (h.2.2.2 a k) else none
def pI (h : AH) (r : Option Nat) (ci k : Nat) (x : Int32) (K : AH → Option α) : Option α := match r with
  | none => none
  | some a => if h.2.1 a = some (.inl ci) then K (setI h a k x) else none
def pZ (h : AH) (r : Option Nat) (ci k : Nat) (x : Int32) (K : AH → Option α) : Option α := match r with
  | none => none
  | some a => if h.2.1 a = some (.inl ci) ∧ (x = 0 ∨ x = 1) then K (setI h a k x) else none
def pR (h : AH) (r : Option Nat) (ci k : Nat) (x : Option Nat) (K : AH → Option α) : Option α := match r with
  | none => none
  | some a => if h.2.1 a = some (.inl ci) then K (setR h a k x) else none
def arl (h : AH) (r : Option Nat) (ty : FieldType) : Option (Nat × Nat) := match r with
  | none => none
  | some a => match h.2.1 a with
    | some (.inr t) => if t.1 = ty then some (a, t.2) else none
    | _ => none
def aL (ty : FieldType) (h : AH) (r : Option Nat) (K : Int32 → Option α) : Option α := match arl h r ty with
  | none => none
  | some q => K (Int32.ofNat q.2)
def aI (ty : FieldType) (h : AH) (r : Option Nat) (i : Int32) (K : Int32 → Option α) : Option α := match arl h r ty with
  | none => none
  | some q => if i < 0 ∨ q.2 ≤ i.toNatClampNeg then none else K (h.2.2.1 q.1 i.toNatClampNeg)
def aR (ty : FieldType) (h : AH) (r : Option Nat) (i : Int32) (K : Option Nat → Option α) : Option α := match arl h r ty with
  | none => none
  | some q => if i < 0 ∨ q.2 ≤ i.toNatClampNeg then none else K (h.2.2.2 q.1 i.toNatClampNeg)
def sI (ty : FieldType) (h : AH) (r : Option Nat) (i x : Int32) (K : AH → Option α) : Option α := match arl h r ty with
  | none => none
  | some q => if i < 0 ∨ q.2 ≤ i.toNatClampNeg then none else K (setI h q.1 i.toNatClampNeg (vp_nar ty x))
/-- an object of class ci is put into an array of its class -/
def sR (ty : FieldType) (ci : Nat) (h : AH) (r : Option Nat) (i : Int32) (x : Option Nat) (K : AH → Option α) : Option α := match arl h r ty with
  | none => none
  | some q => match x with
    | none => none
    | some v => if (i < 0 ∨ q.2 ≤ i.toNatClampNeg) ∨ ¬ h.2.1 v = some (.inl ci) then none else K (setR h q.1 i.toNatClampNeg (some v))
def bd (x : α) (K : α → Option β) : Option β := K x
def rcv (h : AH) (r : Option Nat) (ci : Nat) (K : Nat → Option α) : Option α := match r with
  | none => none
  | some a => if h.2.1 a = some (.inl ci) then K a else none
def cal (F : Option (α × AH)) (K : α → AH → Option β) : Option β := match F with
  | none => none
  | some q => K q.1 q.2
def dv (x y : Int32) (K : Int32 → Option α) : Option α := if y = 0 then none else K (x / y)
def rm (x y : Int32) (K : Int32 → Option α) : Option α := if y = 0 then none else K (x - x / y * y)
def rZ (x : Int32) (h : AH) : Option (Int32 × AH) := if x = 0 ∨ x = 1 then some (x, h) else none
def nul (r : Option Nat) (A B : Option α) : Option α := match r with
  | none => A
  | some _ => B
theorem gI_inv {h : AH} {r : Option Nat} {ci k : Nat} {K : Int32 → Option α} {Z : α} (hf : gI h r ci k K = some Z) : ∃ a, r = some a ∧ h.2.1 a = some (.inl ci) ∧ K (h.2.2.1 a k) = some Z := by
  cases r with
  | none => cases hf
  | some a =>
    by_cases q : h.2.1 a = some (.inl ci)
    · exact ⟨a, rfl, q, by simpa [gI, q] using hf⟩
    · simp [gI, q] at hf
theorem gR_inv {h : AH} {r : Option Nat} {ci k : Nat} {K : Option Nat → Option α} {Z : α} (hf : gR h r ci k K = some Z) : ∃ a, r = some a ∧ h.2.1 a = some (.inl ci) ∧ K (h.2.2.2 a k) = some Z := by
  cases r with
  | none => cases hf
  | some a =>
    by_cases q : h.2.1 a = some (.inl ci)
    · exact ⟨a, rfl, q, by simpa [gR, q] using hf⟩
    · simp [gR, q] at hf
theorem pI_inv {h : AH} {r : Option Nat} {ci k : Nat} {x : Int32} {K : AH → Option α} {Z : α} (hf : pI h r ci k x K = some Z) : ∃ a, r = some a ∧ h.2.1 a = some (.inl ci) ∧ K (setI h a k x) = some Z := by
  cases r with
  | none => cases hf
  | some a =>
    by_cases q : h.2.1 a = some (.inl ci)
    · exact ⟨a, rfl, q, by simpa [pI, q] using hf⟩
    · simp [pI, q] at hf
theorem pZ_inv {h : AH} {r : Option Nat} {ci k : Nat} {x : Int32} {K : AH → Option α} {Z : α} (hf : pZ h r ci k x K = some Z) : ∃ a, r = some a ∧ h.2.1 a = some (.inl ci) ∧ (x = 0 ∨ x = 1) ∧ K (setI h a k x) = some Z := by
  cases r with
  | none => cases hf
  | some a =>
    by_cases q : h.2.1 a = some (.inl ci) ∧ (x = 0 ∨ x = 1)
    · refine ⟨a, rfl, q.1, q.2, ?_⟩
      unfold pZ at hf
      simp only [if_pos q] at hf
      exact hf
    · unfold pZ at hf
      simp only [if_neg q] at hf
      cases hf
theorem pR_inv {h : AH} {r : Option Nat} {ci k : Nat} {x : Option Nat} {K : AH → Option α} {Z : α} (hf : pR h r ci k x K = some Z) : ∃ a, r = some a ∧ h.2.1 a = some (.inl ci) ∧ K (setR h a k x) = some Z := by
  cases r with
  | none => cases hf
  | some a =>
    by_cases q : h.2.1 a = some (.inl ci)
    · exact ⟨a, rfl, q, by simpa [pR, q] using hf⟩
    · simp [pR, q] at hf
theorem arl_inv {h : AH} {r : Option Nat} {ty : FieldType} {q : Nat × Nat} (hf : arl h r ty = some q) : r = some q.1 ∧ h.2.1 q.1 = some (.inr (ty, q.2)) := by
  cases r with
  | none => cases hf
  | some a =>
    unfold arl at hf
    cases hs : h.2.1 a with
    | none => simp [hs] at hf
    | some t =>
      cases t with
      | inl ci => simp [hs] at hf
      | inr t =>
        simp only [hs] at hf
        by_cases e : t.1 = ty
        · rw [if_pos e] at hf
          cases hf
          subst e
          exact ⟨rfl, hs⟩
        · rw [if_neg e] at hf
          cases hf
theorem aL_inv {ty : FieldType} {h : AH} {r : Option Nat} {K : Int32 → Option α} {Z : α} (hf : aL ty h r K = some Z) : ∃ a n, r = some a ∧ h.2.1 a = some (.inr (ty, n)) ∧ K (Int32.ofNat n) = some Z := by
  unfold aL at hf
  cases e : arl h r ty with
  | none => simp [e] at hf
  | some q =>
    simp only [e] at hf
    exact ⟨q.1, q.2, (arl_inv e).1, (arl_inv e).2, hf⟩
theorem aI_inv {ty : FieldType} {h : AH} {r : Option Nat} {i : Int32} {K : Int32 → Option α} {Z : α} (hf : aI ty h r i K = some Z) : ∃ a n, r = some a ∧ h.2.1 a = some (.inr (ty, n)) ∧ vp_in i n ∧ K (h.2.2.1 a i.toNatClampNeg) = some Z := by
  unfold aI at hf
  cases e : arl h r ty with
  | none => simp [e] at hf
  | some q =>
    simp only [e] at hf
    by_cases e1 : i < 0 ∨ q.2 ≤ i.toNatClampNeg
    · rw [if_pos e1] at hf
      cases hf
    · rw [if_neg e1] at hf
      exact ⟨q.1, q.2, (arl_inv e).1, (arl_inv e).2, e1, hf⟩
theorem aR_inv {ty : FieldType} {h : AH} {r : Option Nat} {i : Int32} {K : Option Nat → Option α} {Z : α} (hf : aR ty h r i K = some Z) : ∃ a n, r = some a ∧ h.2.1 a = some (.inr (ty, n)) ∧ vp_in i n ∧ K (h.2.2.2 a i.toNatClampNeg) = some Z := by
  unfold aR at hf
  cases e : arl h r ty with
  | none => simp [e] at hf
  | some q =>
    simp only [e] at hf
    by_cases e1 : i < 0 ∨ q.2 ≤ i.toNatClampNeg
    · rw [if_pos e1] at hf
      cases hf
    · rw [if_neg e1] at hf
      exact ⟨q.1, q.2, (arl_inv e).1, (arl_inv e).2, e1, hf⟩
theorem sI_inv {ty : FieldType} {h : AH} {r : Option Nat} {i x : Int32} {K : AH → Option α} {Z : α} (hf : sI ty h r i x K = some Z) : ∃ a n, r = some a ∧ h.2.1 a = some (.inr (ty, n)) ∧ vp_in i n ∧ K (setI h a i.toNatClampNeg (vp_nar ty x)) = some Z := by
  unfold sI at hf
  cases e : arl h r ty with
  | none => simp [e] at hf
  | some q =>
    simp only [e] at hf
    by_cases e1 : i < 0 ∨ q.2 ≤ i.toNatClampNeg
    · rw [if_pos e1] at hf
      cases hf
    · rw [if_neg e1] at hf
      exact ⟨q.1, q.2, (arl_inv e).1, (arl_inv e).2, e1, hf⟩
theorem sR_inv {ty : FieldType} {ci : Nat} {h : AH} {r : Option Nat} {i : Int32} {x : Option Nat} {K : AH → Option α} {Z : α} (hf : sR ty ci h r i x K = some Z) : ∃ a n v, r = some a ∧ h.2.1 a = some (.inr (ty, n)) ∧ vp_in i n ∧ x = some v ∧ h.2.1 v = some (.inl ci) ∧ K (setR h a i.toNatClampNeg (some v)) = some Z := by
  unfold sR at hf
  cases e : arl h r ty with
  | none => simp [e] at hf
  | some q =>
    cases x with
    | none => simp [e] at hf
    | some v =>
      simp only [e] at hf
      by_cases e1 : (i < 0 ∨ q.2 ≤ i.toNatClampNeg) ∨ ¬ h.2.1 v = some (.inl ci)
      · rw [if_pos e1] at hf
        cases hf
      · rw [if_neg e1] at hf
        exact ⟨q.1, q.2, v, (arl_inv e).1, (arl_inv e).2, fun z => e1 (Or.inl z), rfl, Classical.byContradiction fun z => e1 (Or.inr z), hf⟩
theorem rcv_inv {h : AH} {r : Option Nat} {ci : Nat} {K : Nat → Option α} {Z : α} (hf : rcv h r ci K = some Z) {G : Prop} (k : ∀ a, r = some a → h.2.1 a = some (.inl ci) → K a = some Z → G) : G := by
  cases r with
  | none => cases hf
  | some a =>
    by_cases q : h.2.1 a = some (.inl ci)
    · exact k a rfl q (by simpa [rcv, q] using hf)
    · simp [rcv, q] at hf
theorem cal_inv {F : Option (α × AH)} {K : α → AH → Option β} {Z : β} (hf : cal F K = some Z) {G : Prop} (k : ∀ v h, F = some (v, h) → K v h = some Z → G) : G := by
  cases F with
  | none => cases hf
  | some q => exact k q.1 q.2 rfl hf
theorem bd_inv {x : α} {K : α → Option β} {Z : β} (hf : bd x K = some Z) : K x = some Z := hf
theorem dv_inv {x y : Int32} {K : Int32 → Option α} {Z : α} (hf : dv x y K = some Z) : ¬ y = 0 ∧ K (x / y) = some Z := by
  unfold dv at hf
  by_cases q : y = 0
  · rw [if_pos q] at hf
    cases hf
  · rw [if_neg q] at hf
    exact ⟨q, hf⟩
theorem rm_inv {x y : Int32} {K : Int32 → Option α} {Z : α} (hf : rm x y K = some Z) : ¬ y = 0 ∧ K (x - x / y * y) = some Z := by
  unfold rm at hf
  by_cases q : y = 0
  · rw [if_pos q] at hf
    cases hf
  · rw [if_neg q] at hf
    exact ⟨q, hf⟩
theorem rZ_inv {x v : Int32} {h h' : AH} (hf : rZ x h = some (v, h')) : narrow .boolean (.int x) = .int x ∧ x = v ∧ h = h' := by
  unfold rZ at hf
  by_cases q : x = 0 ∨ x = 1
  · rw [if_pos q] at hf
    cases hf
    refine ⟨?_, rfl, rfl⟩
    rcases q with rfl | rfl <;> rfl
  · rw [if_neg q] at hf
    cases hf
end FN
end
section
/-! ===== rows: an instruction over the heap of part 02 ===== -/
section RW1
variable {p : Program} {l : Launch} {e : Env} {R : Room} {s : State} {m : MethodId} {args : Array Value} {below : List Frame} {meth : Method} {c : Code} {H : Heap} {locs : List Loc} {cells slots : Nat} {Q : State → Prop}
variable {cc : ByteArray} {nL : Nat} {own : String} {D : RG} {b : Nat} {h : AH} {pc : Nat} {ls : Array Slot} {rest : List Value} {α : Type} {Z : α}
/-- a field of a class: the class's row, the field's place in the class and in own's pool, its type -/
def r_fld (ci k : Nat) (C : String) (T : u_T) (N : Nat) (ty : FieldType) : Prop := vwCl[ci]? = some (C, T, N) ∧ k < N ∧ (∀ w ∈ u_ws C T N, w ∈ wsL_law) ∧ (T k).1 = C ∧ r_ty ci k = ty ∧ parseFieldDescriptor (T k).2.2.1 = some ty ∧ (∀ k, k < N → parseFieldDescriptor (T k).2.2.1 = some (r_ty ci k)) ∧ (∀ a, a < N → ∀ b, b < N → a ≠ b → (T a).2.1 ≠ (T b).2.1)
theorem r_get0 (X : r_C p c cc nL s m args own D b) (B : r_B D b s h H locs) {ci k : Nat} {C : String} {T : u_T} {N index : Nat} {ty : FieldType} {a : Nat} (F : r_fld ci k C T N ty) (hlink : Cond.fieldLink own index C (T k).2.1 (T k).2.2.1 ∈ wsL_law) (hdg : decode cc pc = .ok (.getfield index, 3)) (hs : h.2.1 a = some (.inl ci))
    (kk : W p l e R s m args below meth c H locs cells slots Q (F0 m (pc + 3) ls (r_val ty (h.2.2.1 a k) (h.2.2.2 a k) :: rest))) : W p l e R s m args below meth c H locs cells slots Q (F0 m pc ls (.ref a :: rest)) := by
  obtain ⟨⟨hx, hb, -, hown, hts⟩, hK, -⟩ := X
  obtain ⟨hc, hk, hin, hsm, hty, -⟩ := F
  obtain ⟨-, q, hq, cell, q1, q2, q3, q4⟩ := B.1.2 a _ hs
  have hr : q = (C, T, N) := Option.some.inj (hq.symm.trans hc)
  subst hr
  obtain ⟨hS, hfc, kC, hkC, hkind⟩ := hK.1.1 ci _ hc
  obtain ⟨cf, kf, fi, f, hi, hsl⟩ := hS k hk
  refine W.getf hx hb hown (hts _ hlink) (by rw [← hsm]; exact hi) (u_facts hfc hkC (u_lays hts hin hk) hi).1 q1 (by rw [q3]; exact fun h => by cases h) ?_ rfl rfl hdg kk
  rw [← hty, hsl]
  exact q4 k hk
theorem r_gI (X : r_C p c cc nL s m args own D b) (B : r_B D b s h H locs) {ci k : Nat} {C : String} {T : u_T} {N index : Nat} {ty : FieldType} {r : Option Nat} {K : Int32 → Option α} (hf : gI h r ci k K = some Z) (F : r_fld ci k C T N ty) (hty : ∀ x y, r_val ty x y = .int x) (hlink : Cond.fieldLink own index C (T k).2.1 (T k).2.2.1 ∈ wsL_law) (hdg : decode cc pc = .ok (.getfield index, 3))
    (kk : ∀ v : Int32, K v = some Z → W p l e R s m args below meth c H locs cells slots Q (F0 m (pc + 3) ls (.int v :: rest))) : W p l e R s m args below meth c H locs cells slots Q (F0 m pc ls (va_rf r :: rest)) := by
  obtain ⟨a, rfl, hs, hf⟩ := gI_inv hf
  refine r_get0 X B F hlink hdg hs ?_
  rw [hty]
  exact kk _ hf
theorem r_gR (X : r_C p c cc nL s m args own D b) (B : r_B D b s h H locs) {ci k : Nat} {C : String} {T : u_T} {N index : Nat} {ty : FieldType} {r : Option Nat} {K : Option Nat → Option α} (hf : gR h r ci k K = some Z) (F : r_fld ci k C T N ty) (hty : ∀ x y, r_val ty x y = va_rf y) (hlink : Cond.fieldLink own index C (T k).2.1 (T k).2.2.1 ∈ wsL_law) (hdg : decode cc pc = .ok (.getfield index, 3))
    (kk : ∀ v : Option Nat, K v = some Z → W p l e R s m args below meth c H locs cells slots Q (F0 m (pc + 3) ls (va_rf v :: rest))) : W p l e R s m args below meth c H locs cells slots Q (F0 m pc ls (va_rf r :: rest)) := by
  obtain ⟨a, rfl, hs, hf⟩ := gR_inv hf
  refine r_get0 X B F hlink hdg hs ?_
  rw [hty]
  exact kk _ hf
/-- an object's slot is written -/
theorem r_put_at {ci k : Nat} {C : String} {T : u_T} {N a : Nat} {x : Int32} {y : Option Nat} {h' : AH} {H1 : Heap} {cell : Cell} (hc : vwCl[ci]? = some (C, T, N)) (hk : k < N) (q2 : cell.cls = D.1 ci) (q3 : cell.vm = .none) (q4 : ∀ k, k < N → cell.slots[D.2.1 ci k]? = some (r_val (r_ty ci k) (h.2.2.1 a k) (h.2.2.2 a k))) (hap : ∀ x y, x < N → y < N → x ≠ y → D.2.1 ci x ≠ D.2.1 ci y)
    (e1 : H1[a]? = some (cell.setSlot (D.2.1 ci k) (r_val (r_ty ci k) x y))) (g1 : ∀ j, h'.2.2.1 a j = if j = k then x else h.2.2.1 a j) (g2 : ∀ j, h'.2.2.2 a j = if j = k then y else h.2.2.2 a j) : r_at D h' a (.inl ci) H1 := by
  refine ⟨_, hc, t_OB.to (V := updV (fun k => r_val (r_ty ci k) (h.2.2.1 a k) (h.2.2.2 a k)) k (r_val (r_ty ci k) x y)) ⟨_, e1, q2, q3, t_set q4 hap hk _⟩ (fun j _ => ?_)⟩
  by_cases e : j = k
  · subst e
    simp [updV, g1, g2]
  · simp [updV, g1, g2, e]
theorem r_put0 (X : r_C p c cc nL s m args own D b) (B : r_B D b s h H locs) {ci k : Nat} {C : String} {T : u_T} {N index : Nat} {ty : FieldType} {a : Nat} {x : Int32} {y : Option Nat} (F : r_fld ci k C T N ty) (hlink : Cond.fieldLink own index C (T k).2.1 (T k).2.2.1 ∈ wsL_law) (hfin : (T k).2.2.2 = false ∨ ((T k).2.2.2 = true ∧ meth.name = "<init>" ∧ C = own)) (hn : narrow ty (r_val ty x y) = r_val ty x y) (hfit : fits ty (r_val ty x y) = true) (hdg : decode cc pc = .ok (.putfield index, 3)) (hs : h.2.1 a = some (.inl ci)) {h' : AH} (g0 : h'.1 = h.1) (gs : h'.2.1 = h.2.1) (g1 : ∀ q j, h'.2.2.1 q j = if q = a ∧ j = k then x else h.2.2.1 q j) (g2 : ∀ q j, h'.2.2.2 q j = if q = a ∧ j = k then y else h.2.2.2 q j)
    (kk : ∀ (H1 : Heap) (locs1 : List Loc), r_B D b s h' H1 locs1 → W p l e R s m args below meth c H1 locs1 cells slots Q (F0 m (pc + 3) ls rest)) : W p l e R s m args below meth c H locs cells slots Q (F0 m pc ls (r_val ty x y :: .ref a :: rest)) := by
  obtain ⟨⟨hx, hb, -, hown, hts⟩, hK, -⟩ := X
  obtain ⟨hc, hk, hin, hsm, hty, hd, hty0, hnm⟩ := F
  obtain ⟨-, q, hq, cell, q1, q2, q3, q4⟩ := B.1.2 a _ hs
  have hr : q = (C, T, N) := Option.some.inj (hq.symm.trans hc)
  subst hr
  have hap := va_apart (own := own) hts hin (r_ty ci) hty0 hnm hK.1 hc
  obtain ⟨hS, hfc, kC, hkC, hkind⟩ := hK.1.1 ci _ hc
  obtain ⟨cf, kf, fi, f, hi, hsl⟩ := hS k hk
  have hlay := hts _ (hin _ (u_in_lay hk))
  unfold u_lay at hlay
  have hst := (u_facts hfc hkC (u_lays hts hin hk) hi).1
  have f1 : ∀ q, q ≠ a → h'.2.2.1 q = h.2.2.1 q := fun q hq => by funext j; rw [g1, if_neg (fun z => hq z.1)]
  have f2 : ∀ q, q ≠ a → h'.2.2.2 q = h.2.2.2 q := fun q hq => by funext j; rw [g2, if_neg (fun z => hq z.1)]
  have d1 : ∀ j, h'.2.2.1 a j = if j = k then x else h.2.2.1 a j := fun j => by rw [g1]; simp
  have d2 : ∀ j, h'.2.2.2 a j = if j = k then y else h.2.2.2 a j := fun j => by rw [g2]; simp
  rcases hfin with hfin | ⟨hfin, hini, hco⟩
  · rw [if_neg (by rw [hfin]; decide)] at hlay
    have h6 := u_store hfc hkC hkind hlay hi hd hn hfit
    refine W.putK hx hb (f := f) (ref := C) ⟨hown, hts _ hlink, ⟨_, _, _, (by rw [← hsm]; exact hi)⟩, hst⟩ (by rw [q2]; exact h6) q1 q3 (by rw [hsl]; exact k2_hasslot (q4 k hk)) rfl rfl hdg fun H' e1 e2 e3 => ?_
    rw [hsl, ← hty] at e1
    exact kk H' _ (B.put hs e2 e3 g0 gs f1 f2 (r_put_at hc hk q2 q3 q4 hap e1 d1 d2))
  · rw [if_pos hfin] at hlay
    have hcf : m.cls = cf := by
      obtain ⟨_, _, c', _, _, _, -, -, hf', -, -, -, hown2, -⟩ := Cond.laysFinal_spec hlay
      have e1 : c' = cf := by have := hi.symm.trans hf'; simp at this; exact this.1.symm
      rw [hsm, hco] at hown2
      rw [← e1]; exact Option.some.inj (hown.symm.trans hown2)
    have h6 := u_fits hfc hkC hkind (Or.inr hlay) hi hd hn hfit
    refine W.putFinK hx hb (ref := C) hown (hts _ hlink) (by rw [← hsm]; exact hi) hst hcf hini (by rw [q2]; exact h6) q1 q3 (by rw [hsl]; exact k2_hasslot (q4 k hk)) rfl rfl hdg fun H' e1 e2 e3 => ?_
    rw [hsl, ← hty] at e1
    exact kk H' _ (B.put hs e2 e3 g0 gs f1 f2 (r_put_at hc hk q2 q3 q4 hap e1 d1 d2))
theorem setI_2 (h : AH) (a k : Nat) (x : Int32) (q j : Nat) : (setI h a k x).2.2.2 q j = if q = a ∧ j = k then h.2.2.2 a k else h.2.2.2 q j := by
  by_cases e : q = a ∧ j = k
  · rw [if_pos e, e.1, e.2]; rfl
  · rw [if_neg e]; rfl
theorem setR_1 (h : AH) (a k : Nat) (x : Option Nat) (q j : Nat) : (setR h a k x).2.2.1 q j = if q = a ∧ j = k then h.2.2.1 a k else h.2.2.1 q j := by
  by_cases e : q = a ∧ j = k
  · rw [if_pos e, e.1, e.2]; rfl
  · rw [if_neg e]; rfl
abbrev r_fin (T : u_T) (k : Nat) (meth : Method) (C own : String) : Prop := (T k).2.2.2 = false ∨ ((T k).2.2.2 = true ∧ meth.name = "<init>" ∧ C = own)
theorem r_pI (X : r_C p c cc nL s m args own D b) (B : r_B D b s h H locs) {ci k : Nat} {C : String} {T : u_T} {N index : Nat} {r : Option Nat} {x : Int32} {K : AH → Option α} (hf : pI h r ci k x K = some Z) (F : r_fld ci k C T N .int) (hfin : r_fin T k meth C own) (hlink : Cond.fieldLink own index C (T k).2.1 (T k).2.2.1 ∈ wsL_law) (hdg : decode cc pc = .ok (.putfield index, 3))
    (kk : ∀ (h' : AH) (H1 : Heap) (locs1 : List Loc), r_B D b s h' H1 locs1 → K h' = some Z → W p l e R s m args below meth c H1 locs1 cells slots Q (F0 m (pc + 3) ls rest)) : W p l e R s m args below meth c H locs cells slots Q (F0 m pc ls (.int x :: va_rf r :: rest)) := by
  obtain ⟨a, rfl, hs, hf⟩ := pI_inv hf
  exact r_put0 (y := h.2.2.2 a k) (h' := setI h a k x) X B F hlink hfin rfl rfl hdg hs rfl rfl (fun q j => rfl) (setI_2 h a k x) (fun H1 locs1 B1 => kk _ H1 locs1 B1 hf)
theorem r_pZ (X : r_C p c cc nL s m args own D b) (B : r_B D b s h H locs) {ci k : Nat} {C : String} {T : u_T} {N index : Nat} {r : Option Nat} {x : Int32} {K : AH → Option α} (hf : pZ h r ci k x K = some Z) (F : r_fld ci k C T N .boolean) (hfin : r_fin T k meth C own) (hlink : Cond.fieldLink own index C (T k).2.1 (T k).2.2.1 ∈ wsL_law) (hdg : decode cc pc = .ok (.putfield index, 3))
    (kk : ∀ (h' : AH) (H1 : Heap) (locs1 : List Loc), r_B D b s h' H1 locs1 → K h' = some Z → W p l e R s m args below meth c H1 locs1 cells slots Q (F0 m (pc + 3) ls rest)) : W p l e R s m args below meth c H locs cells slots Q (F0 m pc ls (.int x :: va_rf r :: rest)) := by
  obtain ⟨a, rfl, hs, hx, hf⟩ := pZ_inv hf
  have hn : narrow .boolean (.int x) = .int x := by rcases hx with rfl | rfl <;> rfl
  have hv : fits .boolean (.int x) = true := by rcases hx with rfl | rfl <;> rfl
  exact r_put0 (ty := .boolean) (y := h.2.2.2 a k) (h' := setI h a k x) X B F hlink hfin hn hv hdg hs rfl rfl (fun q j => rfl) (setI_2 h a k x) (fun H1 locs1 B1 => kk _ H1 locs1 B1 hf)
theorem r_pR (X : r_C p c cc nL s m args own D b) (B : r_B D b s h H locs) {ci k : Nat} {C : String} {T : u_T} {N index : Nat} {ty : FieldType} {r x : Option Nat} {K : AH → Option α} (hf : pR h r ci k x K = some Z) (F : r_fld ci k C T N ty) (hty : ty.isReference = true) (hfin : r_fin T k meth C own) (hlink : Cond.fieldLink own index C (T k).2.1 (T k).2.2.1 ∈ wsL_law) (hdg : decode cc pc = .ok (.putfield index, 3))
    (kk : ∀ (h' : AH) (H1 : Heap) (locs1 : List Loc), r_B D b s h' H1 locs1 → K h' = some Z → W p l e R s m args below meth c H1 locs1 cells slots Q (F0 m (pc + 3) ls rest)) : W p l e R s m args below meth c H locs cells slots Q (F0 m pc ls (va_rf x :: va_rf r :: rest)) := by
  obtain ⟨a, rfl, hs, hf⟩ := pR_inv hf
  have e : va_rf x = r_val ty (h.2.2.1 a k) x := by cases ty <;> first | rfl | cases hty
  rw [e]
  refine r_put0 (h' := setR h a k x) X B F hlink hfin ?_ ?_ hdg hs rfl rfl (setR_1 h a k x) (fun q j => rfl) (fun H1 locs1 B1 => kk _ H1 locs1 B1 hf)
  · rw [← e]
    cases x <;> cases ty <;> first | rfl | cases hty
  · rw [← e]
    cases x <;> cases ty <;> first | rfl | cases hty
/-! arrays -/
theorem r_cell (B : r_B D b s h H locs) {a n : Nat} {ty : FieldType} (hs : h.2.1 a = some (.inr (ty, n))) : H[a]? = some (arrV (D.2.2.1 ty) n (fun k => r_val ty (h.2.2.1 a k) (h.2.2.2 a k))) := (B.1.2 a _ hs).2
theorem r_aL (X : r_C p c cc nL s m args own D b) (B : r_B D b s h H locs) {ty : FieldType} {r : Option Nat} {K : Int32 → Option α} (hf : aL ty h r K = some Z) (ht : ty ∈ r_tys) (hdg : decode cc pc = .ok (.arraylength, 1))
    (kk : ∀ v : Int32, K v = some Z → W p l e R s m args below meth c H locs cells slots Q (F0 m (pc + 1) ls (.int v :: rest))) : W p l e R s m args below meth c H locs cells slots Q (F0 m pc ls (va_rf r :: rest)) := by
  obtain ⟨a, n, rfl, hs, hf⟩ := aL_inv hf
  exact W.alen (n := Int32.ofNat n) X.1.1 X.1.2.1 (r_cell B hs) ((X.2.1.2.1 ty ht).1 n _) (by rw [arrV_size] <;> rfl) rfl rfl hdg (kk _ hf)
theorem r_aIi (X : r_C p c cc nL s m args own D b) (B : r_B D b s h H locs) {r : Option Nat} {i : Int32} {K : Int32 → Option α} (hf : aI .int h r i K = some Z) (hdg : decode cc pc = .ok (.iaload, 1))
    (kk : ∀ v : Int32, K v = some Z → W p l e R s m args below meth c H locs cells slots Q (F0 m (pc + 1) ls (.int v :: rest))) : W p l e R s m args below meth c H locs cells slots Q (F0 m pc ls (.int i :: va_rf r :: rest)) := by
  obtain ⟨a, n, rfl, hs, hin, hf⟩ := aI_inv hf
  have hlt : i.toNatClampNeg < n := Nat.not_le.mp fun q => hin (Or.inr q)
  exact W.iald X.1.1 X.1.2.1 (r_cell B hs) ((X.2.1.2.1 .int (by decide)).1 n _) (fun q => by cases q) (by rw [arrV_size]; exact hin) (arrV_read _ _ hlt) rfl rfl hdg (kk _ hf)
theorem r_aIb (X : r_C p c cc nL s m args own D b) (B : r_B D b s h H locs) {r : Option Nat} {i : Int32} {K : Int32 → Option α} (hf : aI .byte h r i K = some Z) (hdg : decode cc pc = .ok (.baload, 1))
    (kk : ∀ v : Int32, K v = some Z → W p l e R s m args below meth c H locs cells slots Q (F0 m (pc + 1) ls (.int v :: rest))) : W p l e R s m args below meth c H locs cells slots Q (F0 m pc ls (.int i :: va_rf r :: rest)) := by
  obtain ⟨a, n, rfl, hs, hin, hf⟩ := aI_inv hf
  have hlt : i.toNatClampNeg < n := Nat.not_le.mp fun q => hin (Or.inr q)
  exact W.bald X.1.1 X.1.2.1 (r_cell B hs) ((X.2.1.2.1 .byte (by decide)).1 n _) (fun q => by cases q) (by rw [arrV_size]; exact hin) (arrV_read _ _ hlt) rfl rfl hdg (kk _ hf)
theorem r_aIz (X : r_C p c cc nL s m args own D b) (B : r_B D b s h H locs) {r : Option Nat} {i : Int32} {K : Int32 → Option α} (hf : aI .boolean h r i K = some Z) (hdg : decode cc pc = .ok (.baload, 1))
    (kk : ∀ v : Int32, K v = some Z → W p l e R s m args below meth c H locs cells slots Q (F0 m (pc + 1) ls (.int v :: rest))) : W p l e R s m args below meth c H locs cells slots Q (F0 m pc ls (.int i :: va_rf r :: rest)) := by
  obtain ⟨a, n, rfl, hs, hin, hf⟩ := aI_inv hf
  have hlt : i.toNatClampNeg < n := Nat.not_le.mp fun q => hin (Or.inr q)
  exact W.zald X.1.1 X.1.2.1 (r_cell B hs) ((X.2.1.2.1 .boolean (by decide)).1 n _) (fun q => by cases q) (by rw [arrV_size]; exact hin) (arrV_read _ _ hlt) rfl rfl hdg (kk _ hf)
theorem r_aR (X : r_C p c cc nL s m args own D b) (B : r_B D b s h H locs) {C : String} {r : Option Nat} {i : Int32} {K : Option Nat → Option α} (hf : aR (.object C) h r i K = some Z) (ht : .object C ∈ r_tys) (hdg : decode cc pc = .ok (.aaload, 1))
    (kk : ∀ v : Option Nat, K v = some Z → W p l e R s m args below meth c H locs cells slots Q (F0 m (pc + 1) ls (va_rf v :: rest))) : W p l e R s m args below meth c H locs cells slots Q (F0 m pc ls (.int i :: va_rf r :: rest)) := by
  obtain ⟨a, n, rfl, hs, hin, hf⟩ := aR_inv hf
  have hlt : i.toNatClampNeg < n := Nat.not_le.mp fun q => hin (Or.inr q)
  exact W.aald (ty := .object C) X.1.1 X.1.2.1 (r_cell B hs) ((X.2.1.2.1 _ ht).1 n _) rfl (fun q => by cases q) (by rw [arrV_size]; exact hin) (arrV_read _ _ hlt) rfl rfl hdg (kk _ hf)
theorem r_store_at {a n i : Nat} {ty : FieldType} {x : Int32} {y : Option Nat} {h' : AH} {H1 : Heap} (e : H1[a]? = some ((arrV (D.2.2.1 ty) n (fun k => r_val ty (h.2.2.1 a k) (h.2.2.2 a k))).setSlot i (r_val ty x y))) (g1 : ∀ j, h'.2.2.1 a j = if j = i then x else h.2.2.1 a j) (g2 : ∀ j, h'.2.2.2 a j = if j = i then y else h.2.2.2 a j) : r_at D h' a (.inr (ty, n)) H1 := by
  show H1[a]? = _
  rw [e, arrV_store]
  congr 2
  funext j
  by_cases hj : j = i
  · subst hj
    simp [updV, g1, g2]
  · simp [updV, g1, g2, hj]
theorem r_sIi (X : r_C p c cc nL s m args own D b) (B : r_B D b s h H locs) {r : Option Nat} {i x : Int32} {K : AH → Option α} (hf : sI .int h r i x K = some Z) (hdg : decode cc pc = .ok (.iastore, 1))
    (kk : ∀ (h' : AH) (H1 : Heap) (locs1 : List Loc), r_B D b s h' H1 locs1 → K h' = some Z → W p l e R s m args below meth c H1 locs1 cells slots Q (F0 m (pc + 1) ls rest)) : W p l e R s m args below meth c H locs cells slots Q (F0 m pc ls (.int x :: .int i :: va_rf r :: rest)) := by
  obtain ⟨a, n, rfl, hs, hin, hf⟩ := sI_inv hf
  refine W.iast X.1.1 X.1.2.1 (r_cell B hs) ((X.2.1.2.1 .int (by decide)).1 n _) (fun q => by cases q) (by rw [arrV_size]; exact hin) rfl rfl hdg fun H1 e z oq => ?_
  refine kk _ H1 _ (B.put (h' := setI h a i.toNatClampNeg (vp_nar .int x)) hs z oq rfl rfl (fun q hq => u2_ne _ _ hq) (fun q hq => rfl) (r_store_at (x := x) (y := h.2.2.2 a i.toNatClampNeg) e (fun j => u2_eq _ _ _ _ _) (fun j => ?_))) hf
  have := setI_2 h a i.toNatClampNeg (vp_nar .int x) a j
  simpa using this
theorem r_sIb (X : r_C p c cc nL s m args own D b) (B : r_B D b s h H locs) {r : Option Nat} {i x : Int32} {K : AH → Option α} (hf : sI .byte h r i x K = some Z) (hdg : decode cc pc = .ok (.bastore, 1))
    (kk : ∀ (h' : AH) (H1 : Heap) (locs1 : List Loc), r_B D b s h' H1 locs1 → K h' = some Z → W p l e R s m args below meth c H1 locs1 cells slots Q (F0 m (pc + 1) ls rest)) : W p l e R s m args below meth c H locs cells slots Q (F0 m pc ls (.int x :: .int i :: va_rf r :: rest)) := by
  obtain ⟨a, n, rfl, hs, hin, hf⟩ := sI_inv hf
  refine W.bast X.1.1 X.1.2.1 (r_cell B hs) ((X.2.1.2.1 .byte (by decide)).1 n _) (fun q => by cases q) (by rw [arrV_size]; exact hin) rfl rfl hdg fun H1 e z oq => ?_
  refine kk _ H1 _ (B.put (h' := setI h a i.toNatClampNeg (vp_nar .byte x)) hs z oq rfl rfl (fun q hq => u2_ne _ _ hq) (fun q hq => rfl) (r_store_at (x := vp_nar .byte x) (y := h.2.2.2 a i.toNatClampNeg) e (fun j => u2_eq _ _ _ _ _) (fun j => ?_))) hf
  have := setI_2 h a i.toNatClampNeg (vp_nar .byte x) a j
  simpa using this
theorem r_sIz (X : r_C p c cc nL s m args own D b) (B : r_B D b s h H locs) {r : Option Nat} {i x : Int32} {K : AH → Option α} (hf : sI .boolean h r i x K = some Z) (hdg : decode cc pc = .ok (.bastore, 1))
    (kk : ∀ (h' : AH) (H1 : Heap) (locs1 : List Loc), r_B D b s h' H1 locs1 → K h' = some Z → W p l e R s m args below meth c H1 locs1 cells slots Q (F0 m (pc + 1) ls rest)) : W p l e R s m args below meth c H locs cells slots Q (F0 m pc ls (.int x :: .int i :: va_rf r :: rest)) := by
  obtain ⟨a, n, rfl, hs, hin, hf⟩ := sI_inv hf
  refine W.zast X.1.1 X.1.2.1 (r_cell B hs) ((X.2.1.2.1 .boolean (by decide)).1 n _) (fun q => by cases q) (by rw [arrV_size]; exact hin) rfl rfl hdg fun H1 e z oq => ?_
  refine kk _ H1 _ (B.put (h' := setI h a i.toNatClampNeg (vp_nar .boolean x)) hs z oq rfl rfl (fun q hq => u2_ne _ _ hq) (fun q hq => rfl) (r_store_at (x := vp_nar .boolean x) (y := h.2.2.2 a i.toNatClampNeg) e (fun j => u2_eq _ _ _ _ _) (fun j => ?_))) hf
  have := setI_2 h a i.toNatClampNeg (vp_nar .boolean x) a j
  simpa using this
theorem r_sR (X : r_C p c cc nL s m args own D b) (B : r_B D b s h H locs) {ci : Nat} {C : String} {T : u_T} {N : Nat} {r x : Option Nat} {i : Int32} {K : AH → Option α} (hf : sR (.object C) ci h r i x K = some Z) (ht : .object C ∈ r_tys) (hc : vwCl[ci]? = some (C, T, N)) (hdg : decode cc pc = .ok (.aastore, 1))
    (kk : ∀ (h' : AH) (H1 : Heap) (locs1 : List Loc), r_B D b s h' H1 locs1 → K h' = some Z → W p l e R s m args below meth c H1 locs1 cells slots Q (F0 m (pc + 1) ls rest)) : W p l e R s m args below meth c H locs cells slots Q (F0 m pc ls (va_rf x :: .int i :: va_rf r :: rest)) := by
  obtain ⟨a, n, v, rfl, hs, hin, rfl, hv, hf⟩ := sR_inv hf
  have hlt : i.toNatClampNeg < n := Nat.not_le.mp fun q => hin (Or.inr q)
  have h0 : ¬ i < 0 := fun q => hin (Or.inl q)
  obtain ⟨r', hr', cellV, g1, g2, g3, -⟩ := (B.1.2 v _ hv).2
  have hcls := (X.2.1.1.1 ci _ hc).2
  obtain ⟨kA, comp, k1, k2, k3, -⟩ := (X.2.1.2.1 _ ht).2
  have hcomp : comp = D.1 ci := Option.some.inj (k3.symm.trans hcls.1)
  subst hcomp
  obtain ⟨kC, hkC, -⟩ := hcls.2
  refine W.aast X.1.1 X.1.2.1 (r_cell B hs) (fun q h => by cases h) (fun h => by cases h) k1 k2 rfl hkC ⟨h0, by rw [arrV_size]; exact hlt⟩ g1 (fun q h => by rw [g3] at h; cases h) (by rw [g2]; exact hkC) (by rw [g2]; exact va_assign hcls) rfl rfl hdg fun H1 e z oq => ?_
  refine kk _ H1 _ (B.put (h' := setR h a i.toNatClampNeg (some v)) hs z oq rfl rfl (fun q hq => rfl) (fun q hq => u2_ne _ _ hq) (r_store_at (x := h.2.2.1 a i.toNatClampNeg) (y := some v) e (fun j => ?_) (fun j => u2_eq _ _ _ _ _))) hf
  have := setR_1 h a i.toNatClampNeg (some v) a j
  simpa using this
end RW1
end
section
/-! ===== rows: locals and branches, new cells, calls, a method's start and end ===== -/
theorem va_cat (r : Option Nat) : (va_rf r).category = 1 := by cases r <;> rfl
theorem cat_i (x : Int32) : (Value.int x).category = 1 := rfl
theorem cat_r (x : Nat) : (Value.ref x).category = 1 := rfl
theorem cat_l (x : Int64) : (Value.long x).category = 2 := rfl
def mx (x y : Int32) : Int32 := if x < y then y else x
def mn (x y : Int32) : Int32 := if y < x then y else x
section RW2
variable {p : Program} {l : Launch} {e : Env} {R : Room} {s : State} {m : MethodId} {args : Array Value} {below : List Frame} {meth : Method} {c : Code} {H : Heap} {locs : List Loc} {cells slots : Nat} {Q : State → Prop}
variable {cc : ByteArray} {nL : Nat} {own : String} {D : RG} {b : Nat} {h : AH} {pc : Nat} {ls : Array Slot} {rest : List Value} {α : Type} {Z : α}
theorem r_aload_n (hexec : p.tables.exec = Jvm.exec) (hb : c.code = cc) {k : Fin 4} {i : Nat} {r : Option Nat} (hdg : decode cc pc = .ok (.aload_n k, 1)) (hi : (k : Nat) = i) (hl : ls[i]? = some (.val (va_rf r)))
    (kk : W p l e R s m args below meth c H locs cells slots Q (F0 m (pc + 1) ls (va_rf r :: rest))) : W p l e R s m args below meth c H locs cells slots Q (F0 m pc ls rest) := by
  cases r with
  | none => exact lv_aload_nN hexec hb hdg hi hl kk
  | some a => exact lv_aload_n hexec hb hdg hi hl kk
theorem r_aload (hexec : p.tables.exec = Jvm.exec) (hb : c.code = cc) {i : Nat} {r : Option Nat} (hdg : decode cc pc = .ok (.aload i, 2)) (hl : ls[i]? = some (.val (va_rf r)))
    (kk : W p l e R s m args below meth c H locs cells slots Q (F0 m (pc + 2) ls (va_rf r :: rest))) : W p l e R s m args below meth c H locs cells slots Q (F0 m pc ls rest) := by
  cases r with
  | none => exact lv_aloadN hexec hb hdg hl kk
  | some a => exact lv_aload hexec hb hdg hl kk
theorem r_astore_n (hexec : p.tables.exec = Jvm.exec) (hb : c.code = cc) {k : Fin 4} {i nL : Nat} {r : Option Nat} {lv lv' : List (Nat × Value)} (hdg : decode cc pc = .ok (.astore_n k, 1)) (hi : (k : Nat) = i) (h : lv_has ls nL lv) (hn : i < nL) (hl : (i, va_rf r) :: lv.filter (fun q => !(q.1 == i) && !(q.1 + 1 == i && q.2.category == 2)) = lv')
    (kk : ∀ ls' : Array Slot, lv_has ls' nL lv' → W p l e R s m args below meth c H locs cells slots Q (F0 m (pc + 1) ls' rest)) : W p l e R s m args below meth c H locs cells slots Q (F0 m pc ls (va_rf r :: rest)) := by
  cases r with
  | none => exact lv_astore_nN hexec hb hdg hi h hn hl kk
  | some a => exact lv_astore_n hexec hb hdg hi h hn hl kk
theorem r_astore (hexec : p.tables.exec = Jvm.exec) (hb : c.code = cc) {i nL : Nat} {r : Option Nat} {lv lv' : List (Nat × Value)} (hdg : decode cc pc = .ok (.astore i, 2)) (h : lv_has ls nL lv) (hn : i < nL) (hl : (i, va_rf r) :: lv.filter (fun q => !(q.1 == i) && !(q.1 + 1 == i && q.2.category == 2)) = lv')
    (kk : ∀ ls' : Array Slot, lv_has ls' nL lv' → W p l e R s m args below meth c H locs cells slots Q (F0 m (pc + 2) ls' rest)) : W p l e R s m args below meth c H locs cells slots Q (F0 m pc ls (va_rf r :: rest)) := by
  cases r with
  | none => exact lv_astoreN hexec hb hdg h hn hl kk
  | some a => exact lv_astore hexec hb hdg h hn hl kk
theorem r_null (hexec : p.tables.exec = Jvm.exec) (hb : c.code = cc) (hdg : decode cc pc = .ok (.aconst_null, 1)) (kk : W p l e R s m args below meth c H locs cells slots Q (F0 m (pc + 1) ls (va_rf none :: rest))) : W p l e R s m args below meth c H locs cells slots Q (F0 m pc ls rest) := lv_null hexec hb hdg kk
theorem r_ifnull (hexec : p.tables.exec = Jvm.exec) (hb : c.code = cc) {r : Option Nat} {A1 A2 : Option α} {off : Int} {tgt : Nat} (hf : nul r A1 A2 = some Z) (hdg : decode cc pc = .ok (.ifnull off, 3)) (ht : (pc : Int) + off = (tgt : Int))
    (k1 : A1 = some Z → r = none → W p l e R s m args below meth c H locs cells slots Q (F0 m tgt ls rest)) (k2 : A2 = some Z → (∃ a, r = some a) → W p l e R s m args below meth c H locs cells slots Q (F0 m (pc + 3) ls rest)) : W p l e R s m args below meth c H locs cells slots Q (F0 m pc ls (va_rf r :: rest)) := by
  cases r with
  | none => exact lv_ifnullN hexec hb hdg ht (k1 hf rfl)
  | some a => exact lv_ifnull hexec hb hdg (k2 hf ⟨a, rfl⟩)
theorem r_ifnonnull (hexec : p.tables.exec = Jvm.exec) (hb : c.code = cc) {r : Option Nat} {A1 A2 : Option α} {off : Int} {tgt : Nat} (hf : nul r A1 A2 = some Z) (hdg : decode cc pc = .ok (.ifnonnull off, 3)) (ht : (pc : Int) + off = (tgt : Int))
    (k1 : A1 = some Z → r = none → W p l e R s m args below meth c H locs cells slots Q (F0 m (pc + 3) ls rest)) (k2 : A2 = some Z → (∃ a, r = some a) → W p l e R s m args below meth c H locs cells slots Q (F0 m tgt ls rest)) : W p l e R s m args below meth c H locs cells slots Q (F0 m pc ls (va_rf r :: rest)) := by
  cases r with
  | none => exact lv_ifnonnullN hexec hb hdg (k1 hf rfl)
  | some a => exact lv_ifnonnull hexec hb hdg ht (k2 hf ⟨a, rfl⟩)
/-- a choice in the function -/
theorem r_ite {P : Prop} [Decidable P] {A1 A2 : Option α} (hf : (if P then A1 else A2) = some Z) : (P → A1 = some Z) ∧ (¬ P → A2 = some Z) := by
  by_cases q : P
  · rw [if_pos q] at hf
    exact ⟨fun _ => hf, fun z => absurd q z⟩
  · rw [if_neg q] at hf
    exact ⟨fun z => absurd z q, fun _ => hf⟩
theorem r_div (hexec : p.tables.exec = Jvm.exec) (hb : c.code = cc) {x y : Int32} {K : Int32 → Option α} (hf : dv x y K = some Z) (hdg : decode cc pc = .ok (.idiv, 1))
    (kk : ∀ v : Int32, K v = some Z → W p l e R s m args below meth c H locs cells slots Q (F0 m (pc + 1) ls (.int v :: rest))) : W p l e R s m args below meth c H locs cells slots Q (F0 m pc ls (.int y :: .int x :: rest)) :=
  lv_idiv hexec hb hdg (dv_inv hf).1 (kk _ (dv_inv hf).2)
theorem r_rem (hexec : p.tables.exec = Jvm.exec) (hb : c.code = cc) {x y : Int32} {K : Int32 → Option α} (hf : rm x y K = some Z) (hdg : decode cc pc = .ok (.irem, 1))
    (kk : ∀ v : Int32, K v = some Z → W p l e R s m args below meth c H locs cells slots Q (F0 m (pc + 1) ls (.int v :: rest))) : W p l e R s m args below meth c H locs cells slots Q (F0 m pc ls (.int y :: .int x :: rest)) :=
  lv_irem hexec hb hdg (rm_inv hf).1 (kk _ (rm_inv hf).2)
/-- a name for what is on the stack -/
theorem r_bd {x : Int32} {K : Int32 → Option α} (hf : bd x K = some Z) (kk : ∀ v : Int32, K v = some Z → W p l e R s m args below meth c H locs cells slots Q (F0 m pc ls (.int v :: rest))) : W p l e R s m args below meth c H locs cells slots Q (F0 m pc ls (.int x :: rest)) := kk x hf
theorem r_bdl {x : Int64} {K : Int64 → Option α} (hf : bd x K = some Z) (kk : ∀ v : Int64, K v = some Z → W p l e R s m args below meth c H locs cells slots Q (F0 m pc ls (.long v :: rest))) : W p l e R s m args below meth c H locs cells slots Q (F0 m pc ls (.long x :: rest)) := kk x hf
/-- a local grows -/
theorem r_iinc (hexec : p.tables.exec = Jvm.exec) (hb : c.code = cc) {i nL k : Nat} {n : Int} {x d : Int32} {lv : List (Nat × Value)} {lv' : Int32 → List (Nat × Value)} {K : Int32 → Option α} (hf : bd (x + d) K = some Z) (hdg : decode cc pc = .ok (.iinc i n, 3)) (h : lv_has ls nL lv) (hk : lv[k]? = some (i, .int x)) (hd : Int32.ofInt n = d) (hn : i < nL) (hl : ∀ v : Int32, (i, Value.int v) :: lv.filter (fun q => !(q.1 == i) && !(q.1 + 1 == i && q.2.category == 2)) = lv' v)
    (kk : ∀ (v : Int32) (ls' : Array Slot), lv_has ls' nL (lv' v) → K v = some Z → W p l e R s m args below meth c H locs cells slots Q (F0 m (pc + 3) ls' rest)) : W p l e R s m args below meth c H locs cells slots Q (F0 m pc ls rest) :=
  lv_iinc hexec hb hdg h hk (v := x + d) (by rw [hd]) hn (hl _) (fun ls' h' => kk _ ls' h' hf)
/-! new cells -/
def nO (h : AH) (ci : Nat) (K : Nat → AH → Option α) : Option α := K h.1 (newS h (.inl ci))
/-- an array of n cells -/
def nA (h : AH) (ty : FieldType) (x : Int32) (N : Nat) (K : Nat → AH → Option α) : Option α := if x < 0 ∨ N < x.toNatClampNeg then none else K h.1 (newS h (.inr (ty, x.toNatClampNeg)))
theorem r_new (X : r_C p c cc nL s m args own D b) (B : r_B D b s h H locs) {ci : Nat} {C : String} {T : u_T} {N index : Nat} {K : Nat → AH → Option α} (hf : nO h ci K = some Z) (hc : vwCl[ci]? = some (C, T, N)) (hin : ∀ w ∈ u_ws C T N, w ∈ wsL_law) (hty : ∀ k, k < N → parseFieldDescriptor (T k).2.2.1 = some (r_ty ci k)) (hcl : Cond.classLink own index C ∈ wsL_law) (hinst : Cond.instantiable C N ∈ wsL_law) (hini : Cond.initialized C ∈ wsL_law) (hcells : cells + 1 ≤ R.cells) (hslots : slots + N ≤ R.slots) (hdg : decode cc pc = .ok (.new index, 3))
    (hdf : ∀ k, k < N → defaultValue (r_ty ci k) = r_val (r_ty ci k) 0 none)
    (kk : ∀ (a : Nat) (h' : AH) (H1 : Heap), r_B D b s h' H1 locs → K a h' = some Z → W p l e R s m args below meth c H1 locs (cells + 1) (slots + N) Q (F0 m (pc + 3) ls (va_rf (some a) :: rest))) : W p l e R s m args below meth c H locs cells slots Q (F0 m pc ls rest) := by
  obtain ⟨⟨hx, hb, -, hown, hts⟩, hK, -, hbs⟩ := X
  have hKn := hK.1.1 ci _ hc
  refine W.newcK hx hb hown (hts _ hcl) (hts _ hinst) (hts _ hini) rfl hdg hcells hslots hKn.2.1 B.1.1 fun H1 kC hkC e1 z1 o1 => ?_
  refine kk h.1 _ H1 (B.new (t := .inl ci) hbs z1 o1 ⟨_, hc, ?_⟩) hf
  refine (u_born (r_ty ci) hts hin hKn hkC e1 hty).to (fun k hk => ?_)
  simp [newS]
  exact hdf k hk
theorem r_newA (X : r_C p c cc nL s m args own D b) (B : r_B D b s h H locs) {atype : ArrayType} {ty : FieldType} {x : Int32} {N : Nat} {K : Nat → AH → Option α} (hf : nA h ty x N K = some Z) (hat : newarray.typeOf atype = ty) (ht : ty ∈ r_tys) (harr : Cond.arrayClass ty ∈ wsL_law) (hN : N * componentBytes ty ≤ 536870912) (hcells : cells + 1 ≤ R.cells) (hslots : slots + N ≤ R.slots) (hdf : defaultValue ty = r_val ty 0 none) (hRA : ∀ U cA, va_RA U cA ty → U.vm.findClass ("[" ++ ty.toString) = some cA) (hdg : decode cc pc = .ok (.newarray atype, 2))
    (kk : ∀ (a : Nat) (h' : AH) (H1 : Heap), r_B D b s h' H1 locs → K a h' = some Z → W p l e R s m args below meth c H1 locs (cells + 1) (slots + N) Q (F0 m (pc + 2) ls (va_rf (some a) :: rest))) : W p l e R s m args below meth c H locs cells slots Q (F0 m pc ls (.int x :: rest)) := by
  obtain ⟨⟨hx, hb, -, hown, hts⟩, hK, -, hbs⟩ := X
  subst hat
  unfold nA at hf
  by_cases q : x < 0 ∨ N < x.toNatClampNeg
  · rw [if_pos q] at hf
    cases hf
  · rw [if_neg q] at hf
    have hx0 : ¬ x < 0 := fun z => q (Or.inl z)
    have hxN : x.toNatClampNeg ≤ N := Nat.not_lt.mp fun z => q (Or.inr z)
    refine va_newaK hx hb (hts _ harr) rfl hdg rfl hx0 rfl (Nat.le_trans (Nat.mul_le_mul_right _ hxN) hN) hcells (by omega) B.1.1 fun H1 cA e1 z1 o1 hAr hNm => ?_
    refine W.widen (k := cells + 1) (n := slots + N) (Nat.le_refl _) (by omega) ?_
    refine kk h.1 _ H1 (B.new (t := .inr (newarray.typeOf atype, x.toNatClampNeg)) hbs z1 o1 ?_) hf
    have hcA : cA = D.2.2.1 (newarray.typeOf atype) := Option.some.inj (hNm.symm.trans (hRA _ _ (hK.2.1 _ ht).2))
    subst hcA
    show H1[h.1]? = _
    rw [e1, hdf]
    congr 2
    funext k
    simp [newS]
theorem r_newQ (X : r_C p c cc nL s m args own D b) (B : r_B D b s h H locs) {C : String} {index : Nat} {x : Int32} {N : Nat} {K : Nat → AH → Option α} (hf : nA h (.object C) x N K = some Z) (ht : .object C ∈ r_tys) (hcl : Cond.classLink own index C ∈ wsL_law) (hov : va_AO C s) (hN : N * 4 ≤ 536870912) (hcells : cells + 1 ≤ R.cells) (hslots : slots + N ≤ R.slots) (hdg : decode cc pc = .ok (.anewarray index, 3))
    (kk : ∀ (a : Nat) (h' : AH) (H1 : Heap), r_B D b s h' H1 locs → K a h' = some Z → W p l e R s m args below meth c H1 locs (cells + 1) (slots + N) Q (F0 m (pc + 3) ls (va_rf (some a) :: rest))) : W p l e R s m args below meth c H locs cells slots Q (F0 m pc ls (.int x :: rest)) := by
  obtain ⟨⟨hx, hb, -, hown, hts⟩, hK, -, hbs⟩ := X
  unfold nA at hf
  by_cases q : x < 0 ∨ N < x.toNatClampNeg
  · rw [if_pos q] at hf
    cases hf
  · rw [if_neg q] at hf
    have hx0 : ¬ x < 0 := fun z => q (Or.inl z)
    have hxN : x.toNatClampNeg ≤ N := Nat.not_lt.mp fun z => q (Or.inr z)
    refine W.anew hx hb hown (hts _ hcl) (va_AO.use hov) rfl hdg rfl hx0 (by omega) hcells (by omega) fun cA kA comp f1 f2 f3 f4 => ?_
    generalize hH1 : H.push ({ cls := cA, slots := Array.replicate x.toNatClampNeg .null, vm := .none } : Cell) = H1
    have z1 : H1.size = h.1 + 1 := by rw [← hH1, Array.size_push, B.1.1]
    have e1 : H1[h.1]? = some (arrV cA x.toNatClampNeg (fun _ => .null)) := by rw [← hH1, ← B.1.1, Array.getElem?_push_size, ← arrV_new]
    have o1 : ∀ q : Nat, q < h.1 → H1[q]? = H[q]? := fun q hq => by rw [← hH1, Array.getElem?_push, if_neg (by rw [B.1.1]; exact Nat.ne_of_lt hq)]
    refine W.widen (k := cells + 1) (n := slots + N) (Nat.le_refl _) (by omega) ?_
    have hsz : H.size = h.1 := B.1.1
    rw [hsz]
    refine kk h.1 _ H1 (B.new (t := .inr (.object C, x.toNatClampNeg)) hbs z1 o1 ?_) hf
    obtain ⟨kA', comp', g1, g2, g3, g4⟩ := (hK.2.1 _ ht).2
    have hcA : cA = D.2.2.1 (.object C) := Option.some.inj (f1.symm.trans g4)
    subst hcA
    show H1[h.1]? = _
    rw [e1]
    congr 2
    funext k
    simp [newS, r_val, va_rf]
/-! calls -/
theorem r_call (B : r_B D b s h H locs) {st0 : List Value} {mc ms : Nat} {v : Option Value} {h' : AH} {a : Array Value} (hr : va_Run p l e R s m args below meth c H locs cells slots mc ms (F0 m pc ls st0) rest (r_Q D b v h' a) (fun q => b ≤ q))
    (kk : ∀ (H1 : Heap) (locs1 : List Loc), r_B D b s h' H1 locs1 → W p l e R s m args below meth c H1 locs1 (cells + mc) (slots + ms) Q (F0 m (pc + 3) ls (v.toList ++ rest))) : W p l e R s m args below meth c H locs cells slots Q (F0 m pc ls st0) := by
  intro T hT X
  obtain ⟨v', st₀, t, T', L, h0, X', hL, e1, e2, ⟨hv, hp, hz, hk⟩, st⟩ := hr T hT X
  cases hv
  rw [h0] at hz hk
  obtain ⟨hP, hS⟩ := B
  obtain ⟨t2, a1, b1⟩ := kk T'.heap (locs ++ L) ⟨by rw [e1]; exact hp, Nat.le_trans hS.1 (by rw [e1]; exact hz), fun q h1 h2 => by rw [e1, hk q (Nat.lt_of_lt_of_le h1 hS.1) h2]; exact hS.2.1 q h1 h2, fun q hq => by
      rcases List.mem_append.mp hq with h | h
      · exact hS.2.2 q h
      · exact hL q h⟩ T' rfl X'
  exact ⟨t2, st t2 a1, b1⟩
theorem r_cwV (X : r_C p c cc nL s m args own D b) {y : MethodName} {bytes : ByteArray} {maxL index n mc ms : Nat} {ret : Option FieldType} {rm : Room} {C : String} (hC : y.cls = C) (h1 : Cond.methodLink own index y ∈ wsL_law) (h2 : Cond.instanceMethod y ∈ wsL_law) (h3 : Cond.selects C y y ∈ wsL_law) (h4 : Cond.initialized C ∈ wsL_law) (h5 : Cond.code y bytes maxL ret ∈ wsL_law) (hrc : rm.cells = mc) (hrs : rm.slots = ms)
    (hd : y.cls ≠ "java/lang/invoke/MethodHandle" ∧ y.cls ≠ "java/lang/invoke/VarHandle" ∧ (parseMethodDescriptor y.desc).map (fun d => d.parameters.length) = some n) (hR : rm.frames + 1 ≤ R.frames ∧ 8 + (maxL + 11) + rm.locals ≤ R.locals) : CallW R s args own C index y bytes maxL ret (Cond.code y bytes maxL ret :: wsL_law) rm mc ms n := by
  obtain ⟨⟨-, -, -, -, hts⟩, -⟩ := X
  exact ⟨callB_of n hts (r_good h5) rfl hrc hrs (by rw [hC]; exact hts _ h4) (hts _ h1) hd hR, hts _ h2, hts _ h3⟩
theorem r_cwS (X : r_C p c cc nL s m args own D b) {y : MethodName} {bytes : ByteArray} {maxL index n mc ms : Nat} {ret : Option FieldType} {rm : Room} (h1 : Cond.methodLink own index y ∈ wsL_law) (h2 : Cond.static y ∈ wsL_law) (h4 : Cond.initialized y.cls ∈ wsL_law) (h5 : Cond.code y bytes maxL ret ∈ wsL_law) (hrc : rm.cells = mc) (hrs : rm.slots = ms)
    (hd : y.cls ≠ "java/lang/invoke/MethodHandle" ∧ y.cls ≠ "java/lang/invoke/VarHandle" ∧ (parseMethodDescriptor y.desc).map (fun d => d.parameters.length) = some n) (hR : rm.frames + 1 ≤ R.frames ∧ 8 + (maxL + 11) + rm.locals ≤ R.locals) : CallB R s args own index y bytes maxL ret (Cond.code y bytes maxL ret :: wsL_law) rm mc ms n ∧ (Cond.static y).before args s = true := by
  obtain ⟨⟨-, -, -, -, hts⟩, -⟩ := X
  exact ⟨callB_of n hts (r_good h5) rfl hrc hrs (hts _ h4) (hts _ h1) hd hR, hts _ h2⟩
theorem r_cwI (X : r_C p c cc nL s m args own D b) {y : MethodName} {bytes : ByteArray} {maxL index n mc ms : Nat} {ret : Option FieldType} {rm : Room} (hy : y.name = "<init>") (h1 : Cond.methodLink own index y ∈ wsL_law) (h2 : Cond.instanceMethod y ∈ wsL_law) (h4 : Cond.initialized y.cls ∈ wsL_law) (h5 : Cond.code y bytes maxL ret ∈ wsL_law) (hrc : rm.cells = mc) (hrs : rm.slots = ms)
    (hd : y.cls ≠ "java/lang/invoke/MethodHandle" ∧ y.cls ≠ "java/lang/invoke/VarHandle" ∧ (parseMethodDescriptor y.desc).map (fun d => d.parameters.length) = some n) (hR : rm.frames + 1 ≤ R.frames ∧ 8 + (maxL + 11) + rm.locals ≤ R.locals) : CallB R s args own index y bytes maxL ret (Cond.code y bytes maxL ret :: wsL_law) rm mc ms n ∧ y.name = "<init>" ∧ (Cond.instanceMethod y).before args s = true := by
  obtain ⟨⟨-, -, -, -, hts⟩, -⟩ := X
  exact ⟨callB_of n hts (r_good h5) rfl hrc hrs (hts _ h4) (hts _ h1) hd hR, hy, hts _ h2⟩
theorem r_cwN (X : r_C p c cc nL s m args own D b) {y : MethodName} {bytes : ByteArray} {maxL index n mc ms : Nat} {ret : Option FieldType} {rm : Room} {host : String} (hy : y.name = "<init>") (h1 : Cond.methodLinkNest own index y host ∈ r_nw) (h2 : Cond.instanceMethod y ∈ wsL_law) (h4 : Cond.initialized y.cls ∈ wsL_law) (h5 : Cond.code y bytes maxL ret ∈ wsL_law) (hrc : rm.cells = mc) (hrs : rm.slots = ms)
    (hd : y.cls ≠ "java/lang/invoke/MethodHandle" ∧ y.cls ≠ "java/lang/invoke/VarHandle" ∧ (parseMethodDescriptor y.desc).map (fun d => d.parameters.length) = some n) (hR : rm.frames + 1 ≤ R.frames ∧ 8 + (maxL + 11) + rm.locals ≤ R.locals) : va_CN R s args own index y host bytes maxL ret (Cond.code y bytes maxL ret :: wsL_law) rm mc ms n ∧ y.name = "<init>" ∧ (Cond.instanceMethod y).before args s = true := by
  obtain ⟨⟨-, -, -, -, hts⟩, hK, -⟩ := X
  exact ⟨va_cnB n hts (r_good h5) rfl hrc hrs (hK.2.2.1 _ h1) (hts _ h4) hd hR, hy, hts _ h2⟩
theorem r_preS (X : r_C p c cc nL s m args own D b) (B : r_B D b s h H locs) (As : List Value) : PreS s H (va_Pc As (r_I D b h)) As := ⟨r_blind As, fun U hU hW => ⟨rfl, r_go X B hU hW⟩⟩
theorem r_preV (X : r_C p c cc nL s m args own D b) (B : r_B D b s h H locs) {a ci : Nat} {C : String} {T : u_T} {N : Nat} (hs : h.2.1 a = some (.inl ci)) (hc : vwCl[ci]? = some (C, T, N)) (As : List Value) : PreV s H C a (va_Pc (.ref a :: As) (r_I D b h)) As := by
  refine ⟨r_blind _, ?_, fun U hU hW => ⟨rfl, r_go X B hU hW⟩⟩
  obtain ⟨-, q, hq, cell, q1, q2, q3, -⟩ := B.1.2 a _ hs
  cases hq.symm.trans hc
  exact ⟨cell, q1, by rw [q3]; rfl, by rw [q2]; exact (X.2.1.1.1 ci _ hc).2.1⟩
/-! a method's start and end -/
theorem r_ofW {y : MethodName} {cc : ByteArray} {maxL : Nat} {ret : Option FieldType} {rm : Room} {Qc : Array Value → State → Outcome → State → Prop} {mc ms : Nat} {As : List Value} (ho : y.cls = own) (hy : plainName y.cls = true) (hA : (lg_sl As).length ≤ maxL)
    (body : ∀ (p : Program) (e : Env) (s : State) (m : MethodId) (args : Array Value) (below : List Frame) (meth : Method) (c : Code) (ls : Array Slot), r_C p c cc maxL s m args own D b → r_B D b s h s.heap [] → meth.sig.returnType = ret → meth.locks = false → meth.name = y.name → lv_has ls maxL (lv_args 0 As) →
      W p l e rm s m args below meth c s.heap [] 0 0 (MQ below Qc args s mc ms (fun q => b ≤ q)) (F0 m 0 ls [])) : Met l y (Cond.code y cc maxL ret :: wsL_law) rm (va_Pc As (r_I D b h)) Qc mc ms (fun q => b ≤ q) := by
  refine Met.ofW (cc := cc) (maxL := maxL) (ret := ret) hy rfl ?_
  intro p e s m args below meth c s₁ B hml hv
  obtain ⟨rfl, hK, hE, hbs, hP⟩ := hv
  have hts := atoms_spec (ws := Cond.code y cc maxL ret :: wsL_law) B.pre
  rw [lg_entry_eq]
  exact body p e s m _ below meth c _ ⟨⟨B.exec, B.bytes, hml, by rw [← ho]; exact findClass_of_methodNamed B.named, fun w hw => hts w (List.mem_cons_of_mem _ hw)⟩, hK, hE, hbs⟩ ⟨hP, va_S.rf⟩ B.returns B.notSynchronized (name_of_methodNamed B.named B.method).1 (lv_entry As hA)
theorem r_endQ (B : r_B D b s h H locs) (v : Option Value) : ∀ t : State, t.heap = H → s.WarmedH t.vm → r_Q D b v h args s (.returned v) t := fun t ht _ => ⟨rfl, by rw [ht]; exact B.1, B.2.F ht⟩
theorem r_endL (B : r_B D b s h H locs) : ∀ q ∈ locs, b ≤ q.base := B.2.2.2
theorem r_iret (X : r_C p c cc nL s m args own D b) (B : r_B D b s h H locs) (hr : meth.sig.returnType = some .int) (hlocks : meth.locks = false) {x v : Int32} {h' : AH} (hf : some (x, h) = some (v, h')) (hdg : decode cc pc = .ok (.ireturn, 1)) : W p l e R s m args below meth c H locs cells slots (MQ below (r_Q D b (some (.int v)) h') args s cells slots (fun q => b ≤ q)) (F0 m pc ls [.int x]) := by
  cases hf
  exact W.iret X.1.1 X.1.2.1 hr (r_endQ B _) (r_endL B) hdg
theorem r_zret (X : r_C p c cc nL s m args own D b) (B : r_B D b s h H locs) (hr : meth.sig.returnType = some .boolean) (hlocks : meth.locks = false) {x v : Int32} {h' : AH} (hf : rZ x h = some (v, h')) (hdg : decode cc pc = .ok (.ireturn, 1)) : W p l e R s m args below meth c H locs cells slots (MQ below (r_Q D b (some (.int v)) h') args s cells slots (fun q => b ≤ q)) (F0 m pc ls [.int x]) := by
  obtain ⟨hn, rfl, rfl⟩ := rZ_inv hf
  exact W.zret X.1.1 X.1.2.1 hr hn (r_endQ B _) (r_endL B) hdg
theorem r_lret (X : r_C p c cc nL s m args own D b) (B : r_B D b s h H locs) (hr : meth.sig.returnType = some .long) (hlocks : meth.locks = false) {x v : Int64} {h' : AH} (hf : some (x, h) = some (v, h')) (hdg : decode cc pc = .ok (.lreturn, 1)) : W p l e R s m args below meth c H locs cells slots (MQ below (r_Q D b (some (.long v)) h') args s cells slots (fun q => b ≤ q)) (F0 m pc ls [.long x]) := by
  cases hf
  exact W.lret X.1.1 X.1.2.1 hr (r_endQ B _) (r_endL B) hdg
theorem r_aret (X : r_C p c cc nL s m args own D b) (B : r_B D b s h H locs) {C : String} (hr : meth.sig.returnType = some (.object C)) (hlocks : meth.locks = false) {x v : Option Nat} {h' : AH} (hf : some (x, h) = some (v, h')) (hdg : decode cc pc = .ok (.areturn, 1)) : W p l e R s m args below meth c H locs cells slots (MQ below (r_Q D b (some (va_rf v)) h') args s cells slots (fun q => b ≤ q)) (F0 m pc ls [va_rf x]) := by
  cases hf
  exact W.aret X.1.1 X.1.2.1 hr (Or.inl ⟨_, rfl⟩) (va_rf_or x) (r_endQ B _) (r_endL B) hdg
theorem r_vret (X : r_C p c cc nL s m args own D b) (B : r_B D b s h H locs) (hr : meth.sig.returnType = none) (hlocks : meth.locks = false) {v : Unit} {h' : AH} (hf : some ((), h) = some (v, h')) (hdg : decode cc pc = .ok (.return_, 1)) : W p l e R s m args below meth c H locs cells slots (MQ below (r_Q D b none h') args s cells slots (fun q => b ≤ q)) (F0 m pc ls []) := by
  cases hf
  exact W.vret X.1.1 X.1.2.1 hr (r_endQ B _) (r_endL B) hdg
end RW2
end
section
/-! written by wip/whole/gen.py: words by their places, fields, small functions -/
def FU : Nat := 1000
theorem wr_in : ∀ w ∈ (wsL_law_r1 ++ (wsL_law_r2 ++ (wsL_law_r3 ++ (wsL_law_r4 ++ (wsL_law_r5 ++ (wsL_law_r6 ++ (wsL_law_r7 ++ (wsL_law_r8 ++ (wsL_law_r9 ++ (wsL_law_r10 ++ (wsL_law_r11 ++ (wsL_law_r12 ++ (wsL_law_r13 ++ (wsL_law_r14 ++ (wsL_law_r15 ++ (wsL_law_r16 ++ (wsL_law_r17 ++ (wsL_law_r18 ++ (wsL_law_r19 ++ (wsL_law_r20 ++ (wsL_law_r21 ++ (wsL_law_r22 ++ (wsL_law_r23 ++ (wsL_law_r24 ++ (wsL_law_r25 ++ (wsL_law_r26 ++ (wsL_law_r27 ++ (wsL_law_r28 ++ (wsL_law_r29 ++ wsL_law_r30))))))))))))))))))))))))))))), w ∈ wsL_law := fun _ h => List.mem_append_left _ (List.mem_append_left _ (List.mem_append_left _ (List.mem_append_left _ (List.mem_append_left _ (List.mem_append_left _ (List.mem_append_left _ (List.mem_append_left _ (List.mem_append_left _ (List.mem_append_left _ (h))))))))))
theorem wr_r1 : ∀ w ∈ wsL_law_r1, w ∈ wsL_law := fun w h => wr_in w (List.mem_append_left _ h)
theorem m_2 : Cond.initialized RX7 ∈ wsL_law := wr_r1 _ (List.mem_of_getElem? (i := 2) rfl)
theorem m_5 : Cond.initialized RX8 ∈ wsL_law := wr_r1 _ (List.mem_of_getElem? (i := 5) rfl)
theorem m_13 : Cond.methodLink RX7 1 objectInit ∈ wsL_law := wr_r1 _ (List.mem_of_getElem? (i := 13) rfl)
theorem m_14 : Cond.instanceMethod objectInit ∈ wsL_law := wr_r1 _ (List.mem_of_getElem? (i := 14) rfl)
theorem m_15 : Cond.code objectInit ⟨#[0xb1]⟩ 1 none ∈ wsL_law := wr_r1 _ (List.mem_of_getElem? (i := 15) rfl)
theorem m_16 : Cond.classLink RX7 9 RX1 ∈ wsL_law := wr_r1 _ (List.mem_of_getElem? (i := 16) rfl)
theorem m_17 : Cond.fieldLink RX7 11 "TankChain" "fields" "[LTankChain$Field;" ∈ wsL_law := wr_r1 _ (List.mem_of_getElem? (i := 17) rfl)
theorem m_18 : Cond.classLink RX7 15 RX6 ∈ wsL_law := wr_r1 _ (List.mem_of_getElem? (i := 18) rfl)
theorem m_19 : Cond.instantiable RX6 6 ∈ wsL_law := wr_r1 _ (List.mem_of_getElem? (i := 19) rfl)
theorem m_20 : Cond.initialized RX6 ∈ wsL_law := wr_r1 _ (List.mem_of_getElem? (i := 20) rfl)
theorem m_21 : Cond.fieldLink RX7 18 "TankChain" "tape" "LTankChain$Tape;" ∈ wsL_law := wr_r1 _ (List.mem_of_getElem? (i := 21) rfl)
theorem m_22 : Cond.classLink RX7 22 RX0 ∈ wsL_law := wr_r1 _ (List.mem_of_getElem? (i := 22) rfl)
theorem m_23 : Cond.instantiable RX0 6 ∈ wsL_law := wr_r1 _ (List.mem_of_getElem? (i := 23) rfl)
theorem wr_r2 : ∀ w ∈ wsL_law_r2, w ∈ wsL_law := fun w h => wr_in w (List.mem_append_right _ (List.mem_append_left _ h))
theorem m_24 : Cond.initialized RX0 ∈ wsL_law := wr_r2 _ (List.mem_of_getElem? (i := 0) rfl)
theorem m_25 : Cond.fieldLink RX7 25 "TankChain" "inForce" "LTankChain$Custom;" ∈ wsL_law := wr_r2 _ (List.mem_of_getElem? (i := 1) rfl)
theorem m_26 : Cond.fieldLink RX7 29 "TankChain" "draft" "LTankChain$Custom;" ∈ wsL_law := wr_r2 _ (List.mem_of_getElem? (i := 2) rfl)
theorem m_27 : Cond.classLink RX7 32 RX4 ∈ wsL_law := wr_r2 _ (List.mem_of_getElem? (i := 3) rfl)
theorem m_28 : Cond.instantiable RX4 4 ∈ wsL_law := wr_r2 _ (List.mem_of_getElem? (i := 4) rfl)
theorem m_29 : Cond.initialized RX4 ∈ wsL_law := wr_r2 _ (List.mem_of_getElem? (i := 5) rfl)
theorem m_30 : Cond.fieldLink RX7 35 "TankChain" "ever" "LTankChain$Sums;" ∈ wsL_law := wr_r2 _ (List.mem_of_getElem? (i := 6) rfl)
theorem m_31 : Cond.fieldLink RX7 39 "TankChain" "fieldsThere" "I" ∈ wsL_law := wr_r2 _ (List.mem_of_getElem? (i := 7) rfl)
theorem m_32 : Cond.fieldLink RX7 43 "TankChain" "daysGone" "I" ∈ wsL_law := wr_r2 _ (List.mem_of_getElem? (i := 8) rfl)
theorem m_33 : Cond.fieldLink RX7 46 "TankChain" "lastRain" "I" ∈ wsL_law := wr_r2 _ (List.mem_of_getElem? (i := 9) rfl)
theorem m_34 : Cond.fieldLink RX7 49 "TankChain" "waterTold" "I" ∈ wsL_law := wr_r2 _ (List.mem_of_getElem? (i := 10) rfl)
theorem m_35 : Cond.fieldLink RX7 52 "TankChain" "faultPlace" "I" ∈ wsL_law := wr_r2 _ (List.mem_of_getElem? (i := 11) rfl)
theorem m_36 : Cond.fieldLink RX7 55 "TankChain" "breachDay" "I" ∈ wsL_law := wr_r2 _ (List.mem_of_getElem? (i := 12) rfl)
theorem m_37 : Cond.fieldLink RX7 58 "TankChain" "breachFirst" "I" ∈ wsL_law := wr_r2 _ (List.mem_of_getElem? (i := 13) rfl)
theorem m_38 : Cond.fieldLink RX7 61 "TankChain" "breachTanks" "I" ∈ wsL_law := wr_r2 _ (List.mem_of_getElem? (i := 14) rfl)
theorem m_39 : Cond.methodLink RX7 64 Lib.Math.min.name ∈ wsL_law := wr_r2 _ (List.mem_of_getElem? (i := 15) rfl)
theorem m_40 : Cond.static Lib.Math.min.name ∈ wsL_law := wr_r2 _ (List.mem_of_getElem? (i := 16) rfl)
theorem m_41 : Cond.initialized "java/lang/Math" ∈ wsL_law := wr_r2 _ (List.mem_of_getElem? (i := 17) rfl)
theorem m_42 : Cond.code Lib.Math.min.name Lib.Math.min.code 2 (some .int) ∈ wsL_law := wr_r2 _ (List.mem_of_getElem? (i := 18) rfl)
theorem m_43 : Cond.methodLink RX7 70 Lib.Math.max.name ∈ wsL_law := wr_r2 _ (List.mem_of_getElem? (i := 19) rfl)
theorem m_44 : Cond.static Lib.Math.max.name ∈ wsL_law := wr_r2 _ (List.mem_of_getElem? (i := 20) rfl)
theorem m_45 : Cond.code Lib.Math.max.name Lib.Math.max.code 2 (some .int) ∈ wsL_law := wr_r2 _ (List.mem_of_getElem? (i := 21) rfl)
theorem m_46 : Cond.classLink RX7 73 RX5 ∈ wsL_law := wr_r2 _ (List.mem_of_getElem? (i := 22) rfl)
theorem m_47 : Cond.fieldLink RX7 75 "TankChain" "tanks" "[LTankChain$Tank;" ∈ wsL_law := wr_r2 _ (List.mem_of_getElem? (i := 23) rfl)
theorem wr_r3 : ∀ w ∈ wsL_law_r3, w ∈ wsL_law := fun w h => wr_in w (List.mem_append_right _ (List.mem_append_right _ (List.mem_append_left _ h)))
theorem m_48 : Cond.instantiable RX5 10 ∈ wsL_law := wr_r3 _ (List.mem_of_getElem? (i := 0) rfl)
theorem m_49 : Cond.initialized RX5 ∈ wsL_law := wr_r3 _ (List.mem_of_getElem? (i := 1) rfl)
theorem m_50 : Cond.classLink RX7 82 RX2 ∈ wsL_law := wr_r3 _ (List.mem_of_getElem? (i := 2) rfl)
theorem m_51 : Cond.instantiable RX2 4 ∈ wsL_law := wr_r3 _ (List.mem_of_getElem? (i := 3) rfl)
theorem m_52 : Cond.initialized RX2 ∈ wsL_law := wr_r3 _ (List.mem_of_getElem? (i := 4) rfl)
theorem m_53 : Cond.fieldLink RX7 87 "TankChain" "flow" "LTankChain$Flow;" ∈ wsL_law := wr_r3 _ (List.mem_of_getElem? (i := 5) rfl)
theorem m_54 : Cond.instanceMethod yX6_init ∈ wsL_law := wr_r3 _ (List.mem_of_getElem? (i := 6) rfl)
theorem m_55 : Cond.code yX6_init cX6_init 1 none ∈ wsL_law := wr_r3 _ (List.mem_of_getElem? (i := 7) rfl)
theorem m_56 : Cond.methodLink RX6 3 objectInit ∈ wsL_law := wr_r3 _ (List.mem_of_getElem? (i := 8) rfl)
theorem m_57 : Cond.arrayClass .byte ∈ wsL_law := wr_r3 _ (List.mem_of_getElem? (i := 9) rfl)
theorem m_58 : Cond.fieldLink RX6 9 "TankChain$Tape" "bytes" "[B" ∈ wsL_law := wr_r3 _ (List.mem_of_getElem? (i := 10) rfl)
theorem m_59 : Cond.fieldLink RX6 15 "TankChain$Tape" "held" "I" ∈ wsL_law := wr_r3 _ (List.mem_of_getElem? (i := 11) rfl)
theorem m_60 : Cond.fieldLink RX6 19 "TankChain$Tape" "length" "I" ∈ wsL_law := wr_r3 _ (List.mem_of_getElem? (i := 12) rfl)
theorem m_61 : Cond.fieldLink RX6 22 "TankChain$Tape" "kind" "I" ∈ wsL_law := wr_r3 _ (List.mem_of_getElem? (i := 13) rfl)
theorem m_62 : Cond.fieldLink RX6 25 "TankChain$Tape" "begin" "I" ∈ wsL_law := wr_r3 _ (List.mem_of_getElem? (i := 14) rfl)
theorem m_63 : Cond.fieldLink RX6 28 "TankChain$Tape" "end" "I" ∈ wsL_law := wr_r3 _ (List.mem_of_getElem? (i := 15) rfl)
theorem m_64 : Cond.instanceMethod yX0_init ∈ wsL_law := wr_r3 _ (List.mem_of_getElem? (i := 16) rfl)
theorem m_65 : Cond.code yX0_init cX0_init 1 none ∈ wsL_law := wr_r3 _ (List.mem_of_getElem? (i := 17) rfl)
theorem m_66 : Cond.methodLink RX0 3 objectInit ∈ wsL_law := wr_r3 _ (List.mem_of_getElem? (i := 18) rfl)
theorem m_67 : Cond.arrayClass .int ∈ wsL_law := wr_r3 _ (List.mem_of_getElem? (i := 19) rfl)
theorem m_68 : Cond.fieldLink RX0 9 "TankChain$Custom" "firsts" "[I" ∈ wsL_law := wr_r3 _ (List.mem_of_getElem? (i := 20) rfl)
theorem m_69 : Cond.fieldLink RX0 15 "TankChain$Custom" "firstsThere" "I" ∈ wsL_law := wr_r3 _ (List.mem_of_getElem? (i := 21) rfl)
theorem m_70 : Cond.fieldLink RX0 19 "TankChain$Custom" "near" "I" ∈ wsL_law := wr_r3 _ (List.mem_of_getElem? (i := 22) rfl)
theorem m_71 : Cond.fieldLink RX0 22 "TankChain$Custom" "hold" "I" ∈ wsL_law := wr_r3 _ (List.mem_of_getElem? (i := 23) rfl)
theorem wr_r4 : ∀ w ∈ wsL_law_r4, w ∈ wsL_law := fun w h => wr_in w (List.mem_append_right _ (List.mem_append_right _ (List.mem_append_right _ (List.mem_append_left _ h))))
theorem m_72 : Cond.fieldLink RX0 25 "TankChain$Custom" "fair" "Z" ∈ wsL_law := wr_r4 _ (List.mem_of_getElem? (i := 0) rfl)
theorem m_73 : Cond.fieldLink RX0 29 "TankChain$Custom" "statements" "I" ∈ wsL_law := wr_r4 _ (List.mem_of_getElem? (i := 1) rfl)
theorem m_74 : Cond.instanceMethod yX4_init ∈ wsL_law := wr_r4 _ (List.mem_of_getElem? (i := 2) rfl)
theorem m_75 : Cond.code yX4_init cX4_init 1 none ∈ wsL_law := wr_r4 _ (List.mem_of_getElem? (i := 3) rfl)
theorem m_76 : Cond.methodLink RX4 1 objectInit ∈ wsL_law := wr_r4 _ (List.mem_of_getElem? (i := 4) rfl)
theorem m_77 : Cond.fieldLink RX4 7 "TankChain$Sums" "rained" "I" ∈ wsL_law := wr_r4 _ (List.mem_of_getElem? (i := 5) rfl)
theorem m_78 : Cond.fieldLink RX4 13 "TankChain$Sums" "seeped" "I" ∈ wsL_law := wr_r4 _ (List.mem_of_getElem? (i := 6) rfl)
theorem m_79 : Cond.fieldLink RX4 16 "TankChain$Sums" "kept" "I" ∈ wsL_law := wr_r4 _ (List.mem_of_getElem? (i := 7) rfl)
theorem m_80 : Cond.fieldLink RX4 19 "TankChain$Sums" "out" "I" ∈ wsL_law := wr_r4 _ (List.mem_of_getElem? (i := 8) rfl)
theorem m_81 : Cond.methodLink RX7 79 yX5_init ∈ wsL_law := wr_r4 _ (List.mem_of_getElem? (i := 9) rfl)
theorem m_82 : Cond.instanceMethod yX5_init ∈ wsL_law := wr_r4 _ (List.mem_of_getElem? (i := 10) rfl)
theorem m_83 : Cond.code yX5_init cX5_init 3 none ∈ wsL_law := wr_r4 _ (List.mem_of_getElem? (i := 11) rfl)
theorem m_84 : Cond.methodLink RX5 3 objectInit ∈ wsL_law := wr_r4 _ (List.mem_of_getElem? (i := 12) rfl)
theorem m_85 : Cond.classLink RX5 9 RX3 ∈ wsL_law := wr_r4 _ (List.mem_of_getElem? (i := 13) rfl)
theorem m_86 : Cond.instantiable RX3 5 ∈ wsL_law := wr_r4 _ (List.mem_of_getElem? (i := 14) rfl)
theorem m_87 : Cond.initialized RX3 ∈ wsL_law := wr_r4 _ (List.mem_of_getElem? (i := 15) rfl)
theorem m_88 : Cond.fieldLink RX5 12 "TankChain$Tank" "now" "LTankChain$Pool;" ∈ wsL_law := wr_r4 _ (List.mem_of_getElem? (i := 16) rfl)
theorem m_89 : Cond.fieldLink RX5 18 "TankChain$Tank" "after" "LTankChain$Pool;" ∈ wsL_law := wr_r4 _ (List.mem_of_getElem? (i := 17) rfl)
theorem m_90 : Cond.fieldLink RX5 21 "TankChain$Tank" "catches" "I" ∈ wsL_law := wr_r4 _ (List.mem_of_getElem? (i := 18) rfl)
theorem m_91 : Cond.fieldLink RX5 25 "TankChain$Tank" "size" "I" ∈ wsL_law := wr_r4 _ (List.mem_of_getElem? (i := 19) rfl)
theorem m_92 : Cond.fieldLink RX5 28 "TankChain$Tank" "bank" "I" ∈ wsL_law := wr_r4 _ (List.mem_of_getElem? (i := 20) rfl)
theorem m_93 : Cond.fieldLink RX5 31 "TankChain$Tank" "silt" "I" ∈ wsL_law := wr_r4 _ (List.mem_of_getElem? (i := 21) rfl)
theorem m_94 : Cond.fieldLink RX5 34 "TankChain$Tank" "breachedOn" "I" ∈ wsL_law := wr_r4 _ (List.mem_of_getElem? (i := 22) rfl)
theorem m_95 : Cond.fieldLink RX5 37 "TankChain$Tank" "firstField" "LTankChain$Field;" ∈ wsL_law := wr_r4 _ (List.mem_of_getElem? (i := 23) rfl)
theorem wr_r5 : ∀ w ∈ wsL_law_r5, w ∈ wsL_law := fun w h => wr_in w (List.mem_append_right _ (List.mem_append_right _ (List.mem_append_right _ (List.mem_append_right _ (List.mem_append_left _ h)))))
theorem m_96 : Cond.fieldLink RX5 41 "TankChain$Tank" "number" "I" ∈ wsL_law := wr_r5 _ (List.mem_of_getElem? (i := 0) rfl)
theorem m_97 : Cond.fieldLink RX5 44 "TankChain$Tank" "below" "LTankChain$Tank;" ∈ wsL_law := wr_r5 _ (List.mem_of_getElem? (i := 1) rfl)
theorem m_98 : Cond.instanceMethod yX3_init ∈ wsL_law := wr_r5 _ (List.mem_of_getElem? (i := 2) rfl)
theorem m_99 : Cond.code yX3_init cX3_init 1 none ∈ wsL_law := wr_r5 _ (List.mem_of_getElem? (i := 3) rfl)
theorem m_100 : Cond.methodLink RX3 1 objectInit ∈ wsL_law := wr_r5 _ (List.mem_of_getElem? (i := 4) rfl)
theorem m_101 : Cond.fieldLink RX3 7 "TankChain$Pool" "water" "I" ∈ wsL_law := wr_r5 _ (List.mem_of_getElem? (i := 5) rfl)
theorem m_102 : Cond.fieldLink RX3 13 "TankChain$Pool" "opening" "I" ∈ wsL_law := wr_r5 _ (List.mem_of_getElem? (i := 6) rfl)
theorem m_103 : Cond.fieldLink RX3 16 "TankChain$Pool" "breached" "Z" ∈ wsL_law := wr_r5 _ (List.mem_of_getElem? (i := 7) rfl)
theorem m_104 : Cond.fieldLink RX3 20 "TankChain$Pool" "taken" "I" ∈ wsL_law := wr_r5 _ (List.mem_of_getElem? (i := 8) rfl)
theorem m_105 : Cond.fieldLink RX3 23 "TankChain$Pool" "spilt" "I" ∈ wsL_law := wr_r5 _ (List.mem_of_getElem? (i := 9) rfl)
theorem m_106 : Cond.methodLink RX7 84 yX2_init ∈ wsL_law := wr_r5 _ (List.mem_of_getElem? (i := 10) rfl)
theorem m_107 : Cond.instanceMethod yX2_init ∈ wsL_law := wr_r5 _ (List.mem_of_getElem? (i := 11) rfl)
theorem m_108 : Cond.code yX2_init cX2_init 3 none ∈ wsL_law := wr_r5 _ (List.mem_of_getElem? (i := 12) rfl)
theorem m_109 : Cond.methodLink RX2 3 objectInit ∈ wsL_law := wr_r5 _ (List.mem_of_getElem? (i := 13) rfl)
theorem m_110 : Cond.classLink RX2 9 RX4 ∈ wsL_law := wr_r5 _ (List.mem_of_getElem? (i := 14) rfl)
theorem m_111 : Cond.fieldLink RX2 12 "TankChain$Flow" "sums" "LTankChain$Sums;" ∈ wsL_law := wr_r5 _ (List.mem_of_getElem? (i := 15) rfl)
theorem m_112 : Cond.fieldLink RX2 18 "TankChain$Flow" "areasFed" "I" ∈ wsL_law := wr_r5 _ (List.mem_of_getElem? (i := 16) rfl)
theorem m_113 : Cond.fieldLink RX2 22 "TankChain$Flow" "head" "LTankChain$Tank;" ∈ wsL_law := wr_r5 _ (List.mem_of_getElem? (i := 17) rfl)
theorem m_114 : Cond.fieldLink RX2 26 "TankChain$Flow" "custom" "LTankChain$Custom;" ∈ wsL_law := wr_r5 _ (List.mem_of_getElem? (i := 18) rfl)
theorem m_118 : Cond.methodLink RX8 1 objectInit ∈ wsL_law := wr_r5 _ (List.mem_of_getElem? (i := 22) rfl)
theorem m_119 : Cond.fieldLink RX8 7 "TankChainModel" "catches" "[I" ∈ wsL_law := wr_r5 _ (List.mem_of_getElem? (i := 23) rfl)
theorem wr_r6 : ∀ w ∈ wsL_law_r6, w ∈ wsL_law := fun w h => wr_in w (List.mem_append_right _ (List.mem_append_right _ (List.mem_append_right _ (List.mem_append_right _ (List.mem_append_right _ (List.mem_append_left _ h))))))
theorem m_120 : Cond.fieldLink RX8 13 "TankChainModel" "size" "[I" ∈ wsL_law := wr_r6 _ (List.mem_of_getElem? (i := 0) rfl)
theorem m_121 : Cond.fieldLink RX8 16 "TankChainModel" "bank" "[I" ∈ wsL_law := wr_r6 _ (List.mem_of_getElem? (i := 1) rfl)
theorem m_122 : Cond.fieldLink RX8 19 "TankChainModel" "water" "[I" ∈ wsL_law := wr_r6 _ (List.mem_of_getElem? (i := 2) rfl)
theorem m_123 : Cond.fieldLink RX8 22 "TankChainModel" "opening" "[I" ∈ wsL_law := wr_r6 _ (List.mem_of_getElem? (i := 3) rfl)
theorem m_124 : Cond.fieldLink RX8 25 "TankChainModel" "silt" "[I" ∈ wsL_law := wr_r6 _ (List.mem_of_getElem? (i := 4) rfl)
theorem m_125 : Cond.fieldLink RX8 28 "TankChainModel" "taken" "[I" ∈ wsL_law := wr_r6 _ (List.mem_of_getElem? (i := 5) rfl)
theorem m_126 : Cond.fieldLink RX8 31 "TankChainModel" "spilt" "[I" ∈ wsL_law := wr_r6 _ (List.mem_of_getElem? (i := 6) rfl)
theorem m_127 : Cond.fieldLink RX8 34 "TankChainModel" "breachedOn" "[I" ∈ wsL_law := wr_r6 _ (List.mem_of_getElem? (i := 7) rfl)
theorem m_128 : Cond.arrayClass .boolean ∈ wsL_law := wr_r6 _ (List.mem_of_getElem? (i := 8) rfl)
theorem m_129 : Cond.fieldLink RX8 37 "TankChainModel" "isBreached" "[Z" ∈ wsL_law := wr_r6 _ (List.mem_of_getElem? (i := 9) rfl)
theorem m_130 : Cond.fieldLink RX8 41 "TankChainModel" "fieldTank" "[I" ∈ wsL_law := wr_r6 _ (List.mem_of_getElem? (i := 10) rfl)
theorem m_131 : Cond.fieldLink RX8 44 "TankChainModel" "far" "[I" ∈ wsL_law := wr_r6 _ (List.mem_of_getElem? (i := 11) rfl)
theorem m_132 : Cond.fieldLink RX8 47 "TankChainModel" "area" "[I" ∈ wsL_law := wr_r6 _ (List.mem_of_getElem? (i := 12) rfl)
theorem m_133 : Cond.fieldLink RX8 50 "TankChainModel" "owner" "[I" ∈ wsL_law := wr_r6 _ (List.mem_of_getElem? (i := 13) rfl)
theorem m_134 : Cond.fieldLink RX8 53 "TankChainModel" "daysFed" "[I" ∈ wsL_law := wr_r6 _ (List.mem_of_getElem? (i := 14) rfl)
theorem m_135 : Cond.fieldLink RX8 56 "TankChainModel" "allGot" "[I" ∈ wsL_law := wr_r6 _ (List.mem_of_getElem? (i := 15) rfl)
theorem m_136 : Cond.fieldLink RX8 59 "TankChainModel" "lastGot" "[I" ∈ wsL_law := wr_r6 _ (List.mem_of_getElem? (i := 16) rfl)
theorem m_137 : Cond.fieldLink RX8 62 "TankChainModel" "isTemple" "[Z" ∈ wsL_law := wr_r6 _ (List.mem_of_getElem? (i := 17) rfl)
theorem m_138 : Cond.fieldLink RX8 65 "TankChainModel" "owners" "[I" ∈ wsL_law := wr_r6 _ (List.mem_of_getElem? (i := 18) rfl)
theorem m_139 : Cond.fieldLink RX8 68 "TankChainModel" "firstBreach" "I" ∈ wsL_law := wr_r6 _ (List.mem_of_getElem? (i := 19) rfl)
theorem m_140 : Cond.fieldLink RX8 72 "TankChainModel" "breaches" "I" ∈ wsL_law := wr_r6 _ (List.mem_of_getElem? (i := 20) rfl)
theorem m_141 : Cond.fieldLink RX8 75 "TankChainModel" "breachDay" "I" ∈ wsL_law := wr_r6 _ (List.mem_of_getElem? (i := 21) rfl)
theorem m_142 : Cond.fieldLink RX8 78 "TankChainModel" "tape" "[B" ∈ wsL_law := wr_r6 _ (List.mem_of_getElem? (i := 22) rfl)
theorem m_143 : Cond.fieldLink RX8 82 "TankChainModel" "text" "[B" ∈ wsL_law := wr_r6 _ (List.mem_of_getElem? (i := 23) rfl)
theorem wr_r7 : ∀ w ∈ wsL_law_r7, w ∈ wsL_law := fun w h => wr_in w (List.mem_append_right _ (List.mem_append_right _ (List.mem_append_right _ (List.mem_append_right _ (List.mem_append_right _ (List.mem_append_right _ (List.mem_append_left _ h)))))))
theorem m_144 : Cond.fieldLink RX8 85 "TankChainModel" "fault" "I" ∈ wsL_law := wr_r7 _ (List.mem_of_getElem? (i := 0) rfl)
theorem m_145 : Cond.fieldLink RX8 88 "TankChainModel" "told" "[I" ∈ wsL_law := wr_r7 _ (List.mem_of_getElem? (i := 1) rfl)
theorem m_146 : Cond.fieldLink RX8 91 "TankChainModel" "row" "[I" ∈ wsL_law := wr_r7 _ (List.mem_of_getElem? (i := 2) rfl)
theorem m_147 : Cond.fieldLink RX8 94 "TankChainModel" "got" "[I" ∈ wsL_law := wr_r7 _ (List.mem_of_getElem? (i := 3) rfl)
theorem m_148 : Cond.fieldLink RX8 97 "TankChainModel" "hasMore" "[Z" ∈ wsL_law := wr_r7 _ (List.mem_of_getElem? (i := 4) rfl)
theorem m_149 : Cond.fieldLink RX8 100 "TankChainModel" "triedWater" "[I" ∈ wsL_law := wr_r7 _ (List.mem_of_getElem? (i := 5) rfl)
theorem m_150 : Cond.fieldLink RX8 103 "TankChainModel" "triedOpening" "[I" ∈ wsL_law := wr_r7 _ (List.mem_of_getElem? (i := 6) rfl)
theorem m_151 : Cond.fieldLink RX8 106 "TankChainModel" "triedBreach" "[Z" ∈ wsL_law := wr_r7 _ (List.mem_of_getElem? (i := 7) rfl)
theorem m_152 : Cond.methodLink RX8 109 Lib.Math.min.name ∈ wsL_law := wr_r7 _ (List.mem_of_getElem? (i := 8) rfl)
theorem m_153 : Cond.methodLink RX8 115 Lib.Math.max.name ∈ wsL_law := wr_r7 _ (List.mem_of_getElem? (i := 9) rfl)
theorem m_154 : Cond.fieldLink RX8 118 "TankChainModel" "tanks" "I" ∈ wsL_law := wr_r7 _ (List.mem_of_getElem? (i := 10) rfl)
theorem m_159 : Cond.fieldLink RX7 99 "TankChain$Tank" "catches" "I" ∈ wsL_law := wr_r7 _ (List.mem_of_getElem? (i := 15) rfl)
theorem m_160 : Cond.fieldLink RX7 102 "TankChain$Tank" "size" "I" ∈ wsL_law := wr_r7 _ (List.mem_of_getElem? (i := 16) rfl)
theorem m_161 : Cond.fieldLink RX7 105 "TankChain$Tank" "bank" "I" ∈ wsL_law := wr_r7 _ (List.mem_of_getElem? (i := 17) rfl)
theorem m_162 : Cond.methodLink RX7 91 yX7_tankAt ∈ wsL_law := wr_r7 _ (List.mem_of_getElem? (i := 18) rfl)
theorem m_163 : Cond.instanceMethod yX7_tankAt ∈ wsL_law := wr_r7 _ (List.mem_of_getElem? (i := 19) rfl)
theorem m_164 : Cond.selects RX7 yX7_tankAt yX7_tankAt ∈ wsL_law := wr_r7 _ (List.mem_of_getElem? (i := 20) rfl)
theorem m_165 : Cond.code yX7_tankAt cX7_tankAt 2 (some (.object "TankChain$Tank")) ∈ wsL_law := wr_r7 _ (List.mem_of_getElem? (i := 21) rfl)
theorem m_166 : Cond.methodLink RX7 95 yX7_isWithin ∈ wsL_law := wr_r7 _ (List.mem_of_getElem? (i := 22) rfl)
theorem m_167 : Cond.static yX7_isWithin ∈ wsL_law := wr_r7 _ (List.mem_of_getElem? (i := 23) rfl)
theorem wr_r8 : ∀ w ∈ wsL_law_r8, w ∈ wsL_law := fun w h => wr_in w (List.mem_append_right _ (List.mem_append_right _ (List.mem_append_right _ (List.mem_append_right _ (List.mem_append_right _ (List.mem_append_right _ (List.mem_append_right _ (List.mem_append_left _ h))))))))
theorem m_168 : Cond.code yX7_isWithin cX7_isWithin 3 (some .boolean) ∈ wsL_law := wr_r8 _ (List.mem_of_getElem? (i := 0) rfl)
theorem m_173 : Cond.fieldLink RX8 129 "TankChainModel" "day" "I" ∈ wsL_law := wr_r8 _ (List.mem_of_getElem? (i := 5) rfl)
theorem m_174 : Cond.methodLink RX8 125 yX8_isTank ∈ wsL_law := wr_r8 _ (List.mem_of_getElem? (i := 6) rfl)
theorem m_175 : Cond.instanceMethod yX8_isTank ∈ wsL_law := wr_r8 _ (List.mem_of_getElem? (i := 7) rfl)
theorem m_176 : Cond.selects RX8 yX8_isTank yX8_isTank ∈ wsL_law := wr_r8 _ (List.mem_of_getElem? (i := 8) rfl)
theorem m_177 : Cond.code yX8_isTank cX8_isTank 2 (some .boolean) ∈ wsL_law := wr_r8 _ (List.mem_of_getElem? (i := 9) rfl)
theorem m_178 : Cond.methodLink RX8 121 yX8_isIn ∈ wsL_law := wr_r8 _ (List.mem_of_getElem? (i := 10) rfl)
theorem m_179 : Cond.static yX8_isIn ∈ wsL_law := wr_r8 _ (List.mem_of_getElem? (i := 11) rfl)
theorem m_180 : Cond.code yX8_isIn cX8_isIn 3 (some .boolean) ∈ wsL_law := wr_r8 _ (List.mem_of_getElem? (i := 12) rfl)
theorem m_185 : Cond.fieldLink RX7 108 "TankChain$Tank" "now" "LTankChain$Pool;" ∈ wsL_law := wr_r8 _ (List.mem_of_getElem? (i := 17) rfl)
theorem m_186 : Cond.fieldLink RX7 112 "TankChain$Pool" "breached" "Z" ∈ wsL_law := wr_r8 _ (List.mem_of_getElem? (i := 18) rfl)
theorem m_187 : Cond.fieldLink RX7 122 "TankChain$Pool" "water" "I" ∈ wsL_law := wr_r8 _ (List.mem_of_getElem? (i := 19) rfl)
theorem m_188 : Cond.methodLink RX7 118 yX5_roomIf ∈ wsL_law := wr_r8 _ (List.mem_of_getElem? (i := 20) rfl)
theorem m_189 : Cond.instanceMethod yX5_roomIf ∈ wsL_law := wr_r8 _ (List.mem_of_getElem? (i := 21) rfl)
theorem m_190 : Cond.selects RX5 yX5_roomIf yX5_roomIf ∈ wsL_law := wr_r8 _ (List.mem_of_getElem? (i := 22) rfl)
theorem m_191 : Cond.code yX5_roomIf cX5_roomIf 2 (some .int) ∈ wsL_law := wr_r8 _ (List.mem_of_getElem? (i := 23) rfl)
theorem wr_r9 : ∀ w ∈ wsL_law_r9, w ∈ wsL_law := fun w h => wr_in w (List.mem_append_right _ (List.mem_append_right _ (List.mem_append_right _ (List.mem_append_right _ (List.mem_append_right _ (List.mem_append_right _ (List.mem_append_right _ (List.mem_append_right _ (List.mem_append_left _ h)))))))))
theorem m_196 : Cond.fieldLink RX8 136 "TankChainModel" "toldMore" "I" ∈ wsL_law := wr_r9 _ (List.mem_of_getElem? (i := 4) rfl)
theorem m_197 : Cond.methodLink RX8 132 yX8_room ∈ wsL_law := wr_r9 _ (List.mem_of_getElem? (i := 5) rfl)
theorem m_198 : Cond.instanceMethod yX8_room ∈ wsL_law := wr_r9 _ (List.mem_of_getElem? (i := 6) rfl)
theorem m_199 : Cond.selects RX8 yX8_room yX8_room ∈ wsL_law := wr_r9 _ (List.mem_of_getElem? (i := 7) rfl)
theorem m_200 : Cond.code yX8_room cX8_room 3 (some .int) ∈ wsL_law := wr_r9 _ (List.mem_of_getElem? (i := 8) rfl)
theorem m_205 : Cond.instantiable RX1 12 ∈ wsL_law := wr_r9 _ (List.mem_of_getElem? (i := 13) rfl)
theorem m_206 : Cond.initialized RX1 ∈ wsL_law := wr_r9 _ (List.mem_of_getElem? (i := 14) rfl)
theorem m_207 : Cond.methodLink RX7 125 yX1_init ∈ wsL_law := wr_r9 _ (List.mem_of_getElem? (i := 15) rfl)
theorem m_208 : Cond.instanceMethod yX1_init ∈ wsL_law := wr_r9 _ (List.mem_of_getElem? (i := 16) rfl)
theorem m_209 : Cond.code yX1_init cX1_init 7 none ∈ wsL_law := wr_r9 _ (List.mem_of_getElem? (i := 17) rfl)
theorem m_210 : Cond.methodLink RX1 1 objectInit ∈ wsL_law := wr_r9 _ (List.mem_of_getElem? (i := 18) rfl)
theorem m_211 : Cond.fieldLink RX1 7 "TankChain$Field" "next" "LTankChain$Field;" ∈ wsL_law := wr_r9 _ (List.mem_of_getElem? (i := 19) rfl)
theorem m_212 : Cond.fieldLink RX1 13 "TankChain$Field" "share" "I" ∈ wsL_law := wr_r9 _ (List.mem_of_getElem? (i := 20) rfl)
theorem m_213 : Cond.fieldLink RX1 17 "TankChain$Field" "remainder" "I" ∈ wsL_law := wr_r9 _ (List.mem_of_getElem? (i := 21) rfl)
theorem m_214 : Cond.fieldLink RX1 20 "TankChain$Field" "daysFed" "I" ∈ wsL_law := wr_r9 _ (List.mem_of_getElem? (i := 22) rfl)
theorem m_215 : Cond.fieldLink RX1 23 "TankChain$Field" "gotEver" "I" ∈ wsL_law := wr_r9 _ (List.mem_of_getElem? (i := 23) rfl)
theorem wr_r10 : ∀ w ∈ wsL_law_r10, w ∈ wsL_law := fun w h => wr_in w (List.mem_append_right _ (List.mem_append_right _ (List.mem_append_right _ (List.mem_append_right _ (List.mem_append_right _ (List.mem_append_right _ (List.mem_append_right _ (List.mem_append_right _ (List.mem_append_right _ (List.mem_append_left _ h))))))))))
theorem m_216 : Cond.fieldLink RX1 26 "TankChain$Field" "gotLately" "I" ∈ wsL_law := wr_r10 _ (List.mem_of_getElem? (i := 0) rfl)
theorem m_217 : Cond.fieldLink RX1 29 "TankChain$Field" "number" "I" ∈ wsL_law := wr_r10 _ (List.mem_of_getElem? (i := 1) rfl)
theorem m_218 : Cond.fieldLink RX1 32 "TankChain$Field" "tank" "I" ∈ wsL_law := wr_r10 _ (List.mem_of_getElem? (i := 2) rfl)
theorem m_219 : Cond.fieldLink RX1 35 "TankChain$Field" "far" "I" ∈ wsL_law := wr_r10 _ (List.mem_of_getElem? (i := 3) rfl)
theorem m_220 : Cond.fieldLink RX1 38 "TankChain$Field" "area" "I" ∈ wsL_law := wr_r10 _ (List.mem_of_getElem? (i := 4) rfl)
theorem m_221 : Cond.fieldLink RX1 41 "TankChain$Field" "owner" "I" ∈ wsL_law := wr_r10 _ (List.mem_of_getElem? (i := 5) rfl)
theorem m_222 : Cond.fieldLink RX1 44 "TankChain$Field" "temple" "Z" ∈ wsL_law := wr_r10 _ (List.mem_of_getElem? (i := 6) rfl)
theorem m_223 : Cond.methodLink RX7 128 yX5_putInOrder ∈ wsL_law := wr_r10 _ (List.mem_of_getElem? (i := 7) rfl)
theorem m_224 : Cond.instanceMethod yX5_putInOrder ∈ wsL_law := wr_r10 _ (List.mem_of_getElem? (i := 8) rfl)
theorem m_225 : Cond.selects RX5 yX5_putInOrder yX5_putInOrder ∈ wsL_law := wr_r10 _ (List.mem_of_getElem? (i := 9) rfl)
theorem m_226 : Cond.code yX5_putInOrder cX5_putInOrder 5 none ∈ wsL_law := wr_r10 _ (List.mem_of_getElem? (i := 10) rfl)
theorem m_227 : Cond.fieldLink RX5 54 "TankChain$Field" "next" "LTankChain$Field;" ∈ wsL_law := wr_r10 _ (List.mem_of_getElem? (i := 11) rfl)
theorem m_228 : Cond.methodLink RX5 48 yX0_isAhead ∈ wsL_law := wr_r10 _ (List.mem_of_getElem? (i := 12) rfl)
theorem m_229 : Cond.instanceMethod yX0_isAhead ∈ wsL_law := wr_r10 _ (List.mem_of_getElem? (i := 13) rfl)
theorem m_230 : Cond.selects RX0 yX0_isAhead yX0_isAhead ∈ wsL_law := wr_r10 _ (List.mem_of_getElem? (i := 14) rfl)
theorem m_231 : Cond.code yX0_isAhead cX0_isAhead 5 (some .boolean) ∈ wsL_law := wr_r10 _ (List.mem_of_getElem? (i := 15) rfl)
theorem m_232 : Cond.fieldLink RX0 43 "TankChain$Field" "number" "I" ∈ wsL_law := wr_r10 _ (List.mem_of_getElem? (i := 16) rfl)
theorem m_233 : Cond.methodLink RX0 39 yX0_rank ∈ wsL_law := wr_r10 _ (List.mem_of_getElem? (i := 17) rfl)
theorem m_234 : Cond.static yX0_rank ∈ wsL_law := wr_r10 _ (List.mem_of_getElem? (i := 18) rfl)
theorem m_235 : Cond.code yX0_rank cX0_rank 2 (some .int) ∈ wsL_law := wr_r10 _ (List.mem_of_getElem? (i := 19) rfl)
theorem m_236 : Cond.fieldLink RX0 48 "TankChain$Field" "temple" "Z" ∈ wsL_law := wr_r10 _ (List.mem_of_getElem? (i := 20) rfl)
theorem m_237 : Cond.fieldLink RX0 51 "TankChain$Field" "area" "I" ∈ wsL_law := wr_r10 _ (List.mem_of_getElem? (i := 21) rfl)
theorem m_238 : Cond.fieldLink RX0 54 "TankChain$Field" "far" "I" ∈ wsL_law := wr_r10 _ (List.mem_of_getElem? (i := 22) rfl)
theorem wr_r11 : ∀ w ∈ wsL_law_r11, w ∈ wsL_law := fun w h => wr_in w (List.mem_append_right _ (List.mem_append_right _ (List.mem_append_right _ (List.mem_append_right _ (List.mem_append_right _ (List.mem_append_right _ (List.mem_append_right _ (List.mem_append_right _ (List.mem_append_right _ (List.mem_append_right _ (List.mem_append_left _ h)))))))))))
theorem m_243 : Cond.fieldLink RX8 139 "TankChainModel" "fields" "I" ∈ wsL_law := wr_r11 _ (List.mem_of_getElem? (i := 3) rfl)
theorem m_248 : Cond.fieldLink RX7 132 "TankChain$Pool" "opening" "I" ∈ wsL_law := wr_r11 _ (List.mem_of_getElem? (i := 8) rfl)
theorem wr_r12 : ∀ w ∈ wsL_law_r12, w ∈ wsL_law := fun w h => wr_in w (List.mem_append_right _ (List.mem_append_right _ (List.mem_append_right _ (List.mem_append_right _ (List.mem_append_right _ (List.mem_append_right _ (List.mem_append_right _ (List.mem_append_right _ (List.mem_append_right _ (List.mem_append_right _ (List.mem_append_right _ (List.mem_append_left _ h))))))))))))
theorem m_265 : Cond.fieldLink RX7 135 "TankChain$Tank" "silt" "I" ∈ wsL_law := wr_r12 _ (List.mem_of_getElem? (i := 1) rfl)
theorem m_274 : Cond.fieldLink RX7 138 "TankChain$Tape" "held" "I" ∈ wsL_law := wr_r12 _ (List.mem_of_getElem? (i := 10) rfl)
theorem m_275 : Cond.methodLink RX7 141 yX6_putFour ∈ wsL_law := wr_r12 _ (List.mem_of_getElem? (i := 11) rfl)
theorem m_276 : Cond.instanceMethod yX6_putFour ∈ wsL_law := wr_r12 _ (List.mem_of_getElem? (i := 12) rfl)
theorem m_277 : Cond.selects RX6 yX6_putFour yX6_putFour ∈ wsL_law := wr_r12 _ (List.mem_of_getElem? (i := 13) rfl)
theorem m_278 : Cond.code yX6_putFour cX6_putFour 2 none ∈ wsL_law := wr_r12 _ (List.mem_of_getElem? (i := 14) rfl)
theorem m_279 : Cond.methodLink RX6 31 yX6_putByte ∈ wsL_law := wr_r12 _ (List.mem_of_getElem? (i := 15) rfl)
theorem m_280 : Cond.instanceMethod yX6_putByte ∈ wsL_law := wr_r12 _ (List.mem_of_getElem? (i := 16) rfl)
theorem m_281 : Cond.selects RX6 yX6_putByte yX6_putByte ∈ wsL_law := wr_r12 _ (List.mem_of_getElem? (i := 17) rfl)
theorem m_282 : Cond.code yX6_putByte cX6_putByte 2 none ∈ wsL_law := wr_r12 _ (List.mem_of_getElem? (i := 18) rfl)
theorem m_287 : Cond.fieldLink RX8 146 "TankChainModel" "taped" "I" ∈ wsL_law := wr_r12 _ (List.mem_of_getElem? (i := 23) rfl)
theorem wr_r13 : ∀ w ∈ wsL_law_r13, w ∈ wsL_law := fun w h => wr_in w (List.mem_append_right _ (List.mem_append_right _ (List.mem_append_right _ (List.mem_append_right _ (List.mem_append_right _ (List.mem_append_right _ (List.mem_append_right _ (List.mem_append_right _ (List.mem_append_right _ (List.mem_append_right _ (List.mem_append_right _ (List.mem_append_right _ (List.mem_append_left _ h)))))))))))))
theorem m_288 : Cond.methodLink RX8 149 yX8_four ∈ wsL_law := wr_r13 _ (List.mem_of_getElem? (i := 0) rfl)
theorem m_289 : Cond.instanceMethod yX8_four ∈ wsL_law := wr_r13 _ (List.mem_of_getElem? (i := 1) rfl)
theorem m_290 : Cond.selects RX8 yX8_four yX8_four ∈ wsL_law := wr_r13 _ (List.mem_of_getElem? (i := 2) rfl)
theorem m_291 : Cond.code yX8_four cX8_four 3 none ∈ wsL_law := wr_r13 _ (List.mem_of_getElem? (i := 3) rfl)
theorem m_296 : Cond.fieldLink RX7 156 "TankChain$Custom" "statements" "I" ∈ wsL_law := wr_r13 _ (List.mem_of_getElem? (i := 8) rfl)
theorem m_297 : Cond.methodLink RX7 145 yX6_faultReading ∈ wsL_law := wr_r13 _ (List.mem_of_getElem? (i := 9) rfl)
theorem m_298 : Cond.instanceMethod yX6_faultReading ∈ wsL_law := wr_r13 _ (List.mem_of_getElem? (i := 10) rfl)
theorem m_299 : Cond.selects RX6 yX6_faultReading yX6_faultReading ∈ wsL_law := wr_r13 _ (List.mem_of_getElem? (i := 11) rfl)
theorem m_300 : Cond.code yX6_faultReading cX6_faultReading 3 (some .int) ∈ wsL_law := wr_r13 _ (List.mem_of_getElem? (i := 12) rfl)
theorem m_301 : Cond.fieldLink RX6 43 "TankChain$Custom" "statements" "I" ∈ wsL_law := wr_r13 _ (List.mem_of_getElem? (i := 13) rfl)
theorem m_302 : Cond.methodLink RX6 35 yX0_clear ∈ wsL_law := wr_r13 _ (List.mem_of_getElem? (i := 14) rfl)
theorem m_303 : Cond.instanceMethod yX0_clear ∈ wsL_law := wr_r13 _ (List.mem_of_getElem? (i := 15) rfl)
theorem m_304 : Cond.selects RX0 yX0_clear yX0_clear ∈ wsL_law := wr_r13 _ (List.mem_of_getElem? (i := 16) rfl)
theorem m_305 : Cond.code yX0_clear cX0_clear 1 none ∈ wsL_law := wr_r13 _ (List.mem_of_getElem? (i := 17) rfl)
theorem m_306 : Cond.methodLink RX6 40 yX6_nextToken ∈ wsL_law := wr_r13 _ (List.mem_of_getElem? (i := 18) rfl)
theorem m_307 : Cond.instanceMethod yX6_nextToken ∈ wsL_law := wr_r13 _ (List.mem_of_getElem? (i := 19) rfl)
theorem m_308 : Cond.selects RX6 yX6_nextToken yX6_nextToken ∈ wsL_law := wr_r13 _ (List.mem_of_getElem? (i := 20) rfl)
theorem m_309 : Cond.code yX6_nextToken cX6_nextToken 1 none ∈ wsL_law := wr_r13 _ (List.mem_of_getElem? (i := 21) rfl)
theorem m_310 : Cond.methodLink RX6 87 yX6_byteAt ∈ wsL_law := wr_r13 _ (List.mem_of_getElem? (i := 22) rfl)
theorem m_311 : Cond.instanceMethod yX6_byteAt ∈ wsL_law := wr_r13 _ (List.mem_of_getElem? (i := 23) rfl)
theorem wr_r14 : ∀ w ∈ wsL_law_r14, w ∈ wsL_law := fun w h => wr_in w (List.mem_append_right _ (List.mem_append_right _ (List.mem_append_right _ (List.mem_append_right _ (List.mem_append_right _ (List.mem_append_right _ (List.mem_append_right _ (List.mem_append_right _ (List.mem_append_right _ (List.mem_append_right _ (List.mem_append_right _ (List.mem_append_right _ (List.mem_append_right _ (List.mem_append_left _ h))))))))))))))
theorem m_312 : Cond.selects RX6 yX6_byteAt yX6_byteAt ∈ wsL_law := wr_r14 _ (List.mem_of_getElem? (i := 0) rfl)
theorem m_313 : Cond.code yX6_byteAt cX6_byteAt 2 (some .int) ∈ wsL_law := wr_r14 _ (List.mem_of_getElem? (i := 1) rfl)
theorem m_314 : Cond.methodLink RX6 95 yX6_isBlank ∈ wsL_law := wr_r14 _ (List.mem_of_getElem? (i := 2) rfl)
theorem m_315 : Cond.static yX6_isBlank ∈ wsL_law := wr_r14 _ (List.mem_of_getElem? (i := 3) rfl)
theorem m_316 : Cond.code yX6_isBlank cX6_isBlank 1 (some .boolean) ∈ wsL_law := wr_r14 _ (List.mem_of_getElem? (i := 4) rfl)
theorem m_317 : Cond.methodLink RX6 99 yX6_isLetter ∈ wsL_law := wr_r14 _ (List.mem_of_getElem? (i := 5) rfl)
theorem m_318 : Cond.static yX6_isLetter ∈ wsL_law := wr_r14 _ (List.mem_of_getElem? (i := 6) rfl)
theorem m_319 : Cond.code yX6_isLetter cX6_isLetter 1 (some .boolean) ∈ wsL_law := wr_r14 _ (List.mem_of_getElem? (i := 7) rfl)
theorem m_320 : Cond.methodLink RX6 102 yX6_isDigit ∈ wsL_law := wr_r14 _ (List.mem_of_getElem? (i := 8) rfl)
theorem m_321 : Cond.static yX6_isDigit ∈ wsL_law := wr_r14 _ (List.mem_of_getElem? (i := 9) rfl)
theorem m_322 : Cond.code yX6_isDigit cX6_isDigit 1 (some .boolean) ∈ wsL_law := wr_r14 _ (List.mem_of_getElem? (i := 10) rfl)
theorem m_323 : Cond.methodLink RX6 46 yX6_readStatement ∈ wsL_law := wr_r14 _ (List.mem_of_getElem? (i := 11) rfl)
theorem m_324 : Cond.instanceMethod yX6_readStatement ∈ wsL_law := wr_r14 _ (List.mem_of_getElem? (i := 12) rfl)
theorem m_325 : Cond.selects RX6 yX6_readStatement yX6_readStatement ∈ wsL_law := wr_r14 _ (List.mem_of_getElem? (i := 13) rfl)
theorem m_326 : Cond.code yX6_readStatement cX6_readStatement 3 (some .boolean) ∈ wsL_law := wr_r14 _ (List.mem_of_getElem? (i := 14) rfl)
theorem m_327 : Cond.fieldLink RX6 65 "TankChain$Custom" "near" "I" ∈ wsL_law := wr_r14 _ (List.mem_of_getElem? (i := 15) rfl)
theorem m_328 : Cond.fieldLink RX6 69 "TankChain$Custom" "hold" "I" ∈ wsL_law := wr_r14 _ (List.mem_of_getElem? (i := 16) rfl)
theorem m_329 : Cond.fieldLink RX6 73 "TankChain$Custom" "fair" "Z" ∈ wsL_law := wr_r14 _ (List.mem_of_getElem? (i := 17) rfl)
theorem m_330 : Cond.methodLink RX6 52 yX6_isWord ∈ wsL_law := wr_r14 _ (List.mem_of_getElem? (i := 18) rfl)
theorem m_331 : Cond.instanceMethod yX6_isWord ∈ wsL_law := wr_r14 _ (List.mem_of_getElem? (i := 19) rfl)
theorem m_332 : Cond.selects RX6 yX6_isWord yX6_isWord ∈ wsL_law := wr_r14 _ (List.mem_of_getElem? (i := 20) rfl)
theorem m_333 : Cond.code yX6_isWord cX6_isWord 3 (some .boolean) ∈ wsL_law := wr_r14 _ (List.mem_of_getElem? (i := 21) rfl)
theorem m_334 : Cond.methodLink RX6 83 yJ0_length_8abf5 ∈ wsL_law := wr_r14 _ (List.mem_of_getElem? (i := 22) rfl)
theorem m_335 : Cond.instanceMethod yJ0_length_8abf5 ∈ wsL_law := wr_r14 _ (List.mem_of_getElem? (i := 23) rfl)
theorem wr_r15 : ∀ w ∈ wsL_law_r15, w ∈ wsL_law := fun w h => wr_in w (List.mem_append_right _ (List.mem_append_right _ (List.mem_append_right _ (List.mem_append_right _ (List.mem_append_right _ (List.mem_append_right _ (List.mem_append_right _ (List.mem_append_right _ (List.mem_append_right _ (List.mem_append_right _ (List.mem_append_right _ (List.mem_append_right _ (List.mem_append_right _ (List.mem_append_right _ (List.mem_append_left _ h)))))))))))))))
theorem m_336 : Cond.selects RJ0 yJ0_length_8abf5 yJ0_length_8abf5 ∈ wsL_law := wr_r15 _ (List.mem_of_getElem? (i := 0) rfl)
theorem m_337 : Cond.initialized RJ0 ∈ wsL_law := wr_r15 _ (List.mem_of_getElem? (i := 1) rfl)
theorem m_338 : Cond.code yJ0_length_8abf5 cJ0_length_8abf5 1 (some .int) ∈ wsL_law := wr_r15 _ (List.mem_of_getElem? (i := 2) rfl)
theorem m_339 : Cond.fieldLink RJ0 9 "java/lang/String" "value" "[B" ∈ wsL_law := wr_r15 _ (List.mem_of_getElem? (i := 3) rfl)
theorem m_340 : Cond.methodLink RJ0 335 yJ0_coder_7d493 ∈ wsL_law := wr_r15 _ (List.mem_of_getElem? (i := 4) rfl)
theorem m_341 : Cond.instanceMethod yJ0_coder_7d493 ∈ wsL_law := wr_r15 _ (List.mem_of_getElem? (i := 5) rfl)
theorem m_342 : Cond.selects RJ0 yJ0_coder_7d493 yJ0_coder_7d493 ∈ wsL_law := wr_r15 _ (List.mem_of_getElem? (i := 6) rfl)
theorem m_343 : Cond.code yJ0_coder_7d493 cJ0_coder_7d493 1 (some .byte) ∈ wsL_law := wr_r15 _ (List.mem_of_getElem? (i := 7) rfl)
theorem m_344 : Cond.fieldLink RJ0 38 "java/lang/String" "COMPACT_STRINGS" "Z" ∈ wsL_law := wr_r15 _ (List.mem_of_getElem? (i := 8) rfl)
theorem m_345 : Cond.fieldLink RJ0 15 "java/lang/String" "coder" "B" ∈ wsL_law := wr_r15 _ (List.mem_of_getElem? (i := 9) rfl)
theorem m_346 : Cond.methodLink RX6 91 yJ0_charAt_5068e ∈ wsL_law := wr_r15 _ (List.mem_of_getElem? (i := 10) rfl)
theorem m_347 : Cond.instanceMethod yJ0_charAt_5068e ∈ wsL_law := wr_r15 _ (List.mem_of_getElem? (i := 11) rfl)
theorem m_348 : Cond.selects RJ0 yJ0_charAt_5068e yJ0_charAt_5068e ∈ wsL_law := wr_r15 _ (List.mem_of_getElem? (i := 12) rfl)
theorem m_349 : Cond.code yJ0_charAt_5068e cJ0_charAt_5068e 2 (some .char) ∈ wsL_law := wr_r15 _ (List.mem_of_getElem? (i := 13) rfl)
theorem m_350 : Cond.methodLink RJ0 492 yJ0_isLatin1_aae02 ∈ wsL_law := wr_r15 _ (List.mem_of_getElem? (i := 14) rfl)
theorem m_351 : Cond.instanceMethod yJ0_isLatin1_aae02 ∈ wsL_law := wr_r15 _ (List.mem_of_getElem? (i := 15) rfl)
theorem m_352 : Cond.selects RJ0 yJ0_isLatin1_aae02 yJ0_isLatin1_aae02 ∈ wsL_law := wr_r15 _ (List.mem_of_getElem? (i := 16) rfl)
theorem m_353 : Cond.code yJ0_isLatin1_aae02 cJ0_isLatin1_aae02 1 (some .boolean) ∈ wsL_law := wr_r15 _ (List.mem_of_getElem? (i := 17) rfl)
theorem m_354 : Cond.methodLink RJ0 495 yJ1_charAt_3b067 ∈ wsL_law := wr_r15 _ (List.mem_of_getElem? (i := 18) rfl)
theorem m_355 : Cond.static yJ1_charAt_3b067 ∈ wsL_law := wr_r15 _ (List.mem_of_getElem? (i := 19) rfl)
theorem m_356 : Cond.initialized RJ1 ∈ wsL_law := wr_r15 _ (List.mem_of_getElem? (i := 20) rfl)
theorem m_357 : Cond.code yJ1_charAt_3b067 cJ1_charAt_3b067 2 (some .char) ∈ wsL_law := wr_r15 _ (List.mem_of_getElem? (i := 21) rfl)
theorem m_358 : Cond.methodLink RJ1 9 yJ0_checkIndex_df160 ∈ wsL_law := wr_r15 _ (List.mem_of_getElem? (i := 22) rfl)
theorem m_359 : Cond.static yJ0_checkIndex_df160 ∈ wsL_law := wr_r15 _ (List.mem_of_getElem? (i := 23) rfl)
theorem wr_r16 : ∀ w ∈ wsL_law_r16, w ∈ wsL_law := fun w h => wr_in w (List.mem_append_right _ (List.mem_append_right _ (List.mem_append_right _ (List.mem_append_right _ (List.mem_append_right _ (List.mem_append_right _ (List.mem_append_right _ (List.mem_append_right _ (List.mem_append_right _ (List.mem_append_right _ (List.mem_append_right _ (List.mem_append_right _ (List.mem_append_right _ (List.mem_append_right _ (List.mem_append_right _ (List.mem_append_left _ h))))))))))))))))
theorem m_360 : Cond.code yJ0_checkIndex_df160 cJ0_checkIndex_df160 2 none ∈ wsL_law := wr_r16 _ (List.mem_of_getElem? (i := 0) rfl)
theorem m_361 : Cond.fieldLink RJ0 1053 "jdk/internal/util/Preconditions" "SIOOBE_FORMATTER" "Ljava/util/function/BiFunction;" ∈ wsL_law := wr_r16 _ (List.mem_of_getElem? (i := 1) rfl)
theorem m_362 : Cond.methodLink RJ0 1059 yJ3_checkIndex_8e157 ∈ wsL_law := wr_r16 _ (List.mem_of_getElem? (i := 2) rfl)
theorem m_363 : Cond.static yJ3_checkIndex_8e157 ∈ wsL_law := wr_r16 _ (List.mem_of_getElem? (i := 3) rfl)
theorem m_364 : Cond.initialized RJ3 ∈ wsL_law := wr_r16 _ (List.mem_of_getElem? (i := 4) rfl)
theorem m_365 : Cond.code yJ3_checkIndex_8e157 cJ3_checkIndex_8e157 3 (some .int) ∈ wsL_law := wr_r16 _ (List.mem_of_getElem? (i := 5) rfl)
theorem m_383 : Cond.methodLink RX6 56 yX6_readFirst ∈ wsL_law := wr_r16 _ (List.mem_of_getElem? (i := 23) rfl)
theorem wr_r17 : ∀ w ∈ wsL_law_r17, w ∈ wsL_law := fun w h => wr_in w (List.mem_append_right _ (List.mem_append_right _ (List.mem_append_right _ (List.mem_append_right _ (List.mem_append_right _ (List.mem_append_right _ (List.mem_append_right _ (List.mem_append_right _ (List.mem_append_right _ (List.mem_append_right _ (List.mem_append_right _ (List.mem_append_right _ (List.mem_append_right _ (List.mem_append_right _ (List.mem_append_right _ (List.mem_append_right _ (List.mem_append_left _ h)))))))))))))))))
theorem m_384 : Cond.instanceMethod yX6_readFirst ∈ wsL_law := wr_r17 _ (List.mem_of_getElem? (i := 0) rfl)
theorem m_385 : Cond.selects RX6 yX6_readFirst yX6_readFirst ∈ wsL_law := wr_r17 _ (List.mem_of_getElem? (i := 1) rfl)
theorem m_386 : Cond.code yX6_readFirst cX6_readFirst 2 (some .boolean) ∈ wsL_law := wr_r17 _ (List.mem_of_getElem? (i := 2) rfl)
theorem m_387 : Cond.methodLink RX6 78 yX0_addFirst ∈ wsL_law := wr_r17 _ (List.mem_of_getElem? (i := 3) rfl)
theorem m_388 : Cond.instanceMethod yX0_addFirst ∈ wsL_law := wr_r17 _ (List.mem_of_getElem? (i := 4) rfl)
theorem m_389 : Cond.selects RX0 yX0_addFirst yX0_addFirst ∈ wsL_law := wr_r17 _ (List.mem_of_getElem? (i := 5) rfl)
theorem m_390 : Cond.code yX0_addFirst cX0_addFirst 2 none ∈ wsL_law := wr_r17 _ (List.mem_of_getElem? (i := 6) rfl)
theorem m_391 : Cond.methodLink RX6 61 yX6_numberHere ∈ wsL_law := wr_r17 _ (List.mem_of_getElem? (i := 7) rfl)
theorem m_392 : Cond.instanceMethod yX6_numberHere ∈ wsL_law := wr_r17 _ (List.mem_of_getElem? (i := 8) rfl)
theorem m_393 : Cond.selects RX6 yX6_numberHere yX6_numberHere ∈ wsL_law := wr_r17 _ (List.mem_of_getElem? (i := 9) rfl)
theorem m_394 : Cond.code yX6_numberHere cX6_numberHere 3 (some .int) ∈ wsL_law := wr_r17 _ (List.mem_of_getElem? (i := 10) rfl)
theorem m_395 : Cond.methodLink RX7 149 yX0_becomeAs ∈ wsL_law := wr_r17 _ (List.mem_of_getElem? (i := 11) rfl)
theorem m_396 : Cond.instanceMethod yX0_becomeAs ∈ wsL_law := wr_r17 _ (List.mem_of_getElem? (i := 12) rfl)
theorem m_397 : Cond.selects RX0 yX0_becomeAs yX0_becomeAs ∈ wsL_law := wr_r17 _ (List.mem_of_getElem? (i := 13) rfl)
theorem m_398 : Cond.code yX0_becomeAs cX0_becomeAs 3 none ∈ wsL_law := wr_r17 _ (List.mem_of_getElem? (i := 14) rfl)
theorem m_399 : Cond.methodLink RX0 32 yX0_clear ∈ wsL_law := wr_r17 _ (List.mem_of_getElem? (i := 15) rfl)
theorem m_400 : Cond.methodLink RX0 35 yX0_addFirst ∈ wsL_law := wr_r17 _ (List.mem_of_getElem? (i := 16) rfl)
theorem m_401 : Cond.methodLink RX7 153 yX7_orderAnew ∈ wsL_law := wr_r17 _ (List.mem_of_getElem? (i := 17) rfl)
theorem m_402 : Cond.instanceMethod yX7_orderAnew ∈ wsL_law := wr_r17 _ (List.mem_of_getElem? (i := 18) rfl)
theorem m_403 : Cond.selects RX7 yX7_orderAnew yX7_orderAnew ∈ wsL_law := wr_r17 _ (List.mem_of_getElem? (i := 19) rfl)
theorem m_404 : Cond.code yX7_orderAnew cX7_orderAnew 4 none ∈ wsL_law := wr_r17 _ (List.mem_of_getElem? (i := 20) rfl)
theorem m_405 : Cond.fieldLink RX7 267 "TankChain$Flow" "head" "LTankChain$Tank;" ∈ wsL_law := wr_r17 _ (List.mem_of_getElem? (i := 21) rfl)
theorem m_406 : Cond.fieldLink RX7 225 "TankChain$Tank" "firstField" "LTankChain$Field;" ∈ wsL_law := wr_r17 _ (List.mem_of_getElem? (i := 22) rfl)
theorem m_407 : Cond.fieldLink RX7 271 "TankChain$Tank" "below" "LTankChain$Tank;" ∈ wsL_law := wr_r17 _ (List.mem_of_getElem? (i := 23) rfl)
theorem wr_r18 : ∀ w ∈ wsL_law_r18, w ∈ wsL_law := fun w h => wr_in w (List.mem_append_right _ (List.mem_append_right _ (List.mem_append_right _ (List.mem_append_right _ (List.mem_append_right _ (List.mem_append_right _ (List.mem_append_right _ (List.mem_append_right _ (List.mem_append_right _ (List.mem_append_right _ (List.mem_append_right _ (List.mem_append_right _ (List.mem_append_right _ (List.mem_append_right _ (List.mem_append_right _ (List.mem_append_right _ (List.mem_append_right _ (List.mem_append_left _ h))))))))))))))))))
theorem m_408 : Cond.fieldLink RX7 201 "TankChain$Field" "tank" "I" ∈ wsL_law := wr_r18 _ (List.mem_of_getElem? (i := 0) rfl)
theorem m_409 : Cond.methodLink RX7 197 yX7_fieldAt ∈ wsL_law := wr_r18 _ (List.mem_of_getElem? (i := 1) rfl)
theorem m_410 : Cond.instanceMethod yX7_fieldAt ∈ wsL_law := wr_r18 _ (List.mem_of_getElem? (i := 2) rfl)
theorem m_411 : Cond.selects RX7 yX7_fieldAt yX7_fieldAt ∈ wsL_law := wr_r18 _ (List.mem_of_getElem? (i := 3) rfl)
theorem m_412 : Cond.code yX7_fieldAt cX7_fieldAt 2 (some (.object "TankChain$Field")) ∈ wsL_law := wr_r18 _ (List.mem_of_getElem? (i := 4) rfl)
theorem m_417 : Cond.fieldLink RX8 156 "TankChainModel" "end" "I" ∈ wsL_law := wr_r18 _ (List.mem_of_getElem? (i := 9) rfl)
theorem m_418 : Cond.fieldLink RX8 153 "TankChainModel" "place" "I" ∈ wsL_law := wr_r18 _ (List.mem_of_getElem? (i := 10) rfl)
theorem m_419 : Cond.fieldLink RX8 142 "TankChainModel" "hasCustom" "Z" ∈ wsL_law := wr_r18 _ (List.mem_of_getElem? (i := 11) rfl)
theorem m_420 : Cond.methodLink RX8 159 yX8_blanks ∈ wsL_law := wr_r18 _ (List.mem_of_getElem? (i := 12) rfl)
theorem m_421 : Cond.instanceMethod yX8_blanks ∈ wsL_law := wr_r18 _ (List.mem_of_getElem? (i := 13) rfl)
theorem m_422 : Cond.selects RX8 yX8_blanks yX8_blanks ∈ wsL_law := wr_r18 _ (List.mem_of_getElem? (i := 14) rfl)
theorem m_423 : Cond.code yX8_blanks cX8_blanks 1 none ∈ wsL_law := wr_r18 _ (List.mem_of_getElem? (i := 15) rfl)
theorem m_424 : Cond.methodLink RX8 192 yX8_statement ∈ wsL_law := wr_r18 _ (List.mem_of_getElem? (i := 16) rfl)
theorem m_425 : Cond.instanceMethod yX8_statement ∈ wsL_law := wr_r18 _ (List.mem_of_getElem? (i := 17) rfl)
theorem m_426 : Cond.selects RX8 yX8_statement yX8_statement ∈ wsL_law := wr_r18 _ (List.mem_of_getElem? (i := 18) rfl)
theorem m_427 : Cond.code yX8_statement cX8_statement 2 (some .boolean) ∈ wsL_law := wr_r18 _ (List.mem_of_getElem? (i := 19) rfl)
theorem m_428 : Cond.constantLong RX8 172 (439855772532) ∈ wsL_law := wr_r18 _ (List.mem_of_getElem? (i := 20) rfl)
theorem m_429 : Cond.constantLong RX8 178 (127978976603237) ∈ wsL_law := wr_r18 _ (List.mem_of_getElem? (i := 21) rfl)
theorem m_430 : Cond.constantLong RX8 180 (495756340332) ∈ wsL_law := wr_r18 _ (List.mem_of_getElem? (i := 22) rfl)
theorem m_431 : Cond.constantLong RX8 182 (1852137842) ∈ wsL_law := wr_r18 _ (List.mem_of_getElem? (i := 23) rfl)
theorem wr_r19 : ∀ w ∈ wsL_law_r19, w ∈ wsL_law := fun w h => wr_in w (List.mem_append_right _ (List.mem_append_right _ (List.mem_append_right _ (List.mem_append_right _ (List.mem_append_right _ (List.mem_append_right _ (List.mem_append_right _ (List.mem_append_right _ (List.mem_append_right _ (List.mem_append_right _ (List.mem_append_right _ (List.mem_append_right _ (List.mem_append_right _ (List.mem_append_right _ (List.mem_append_right _ (List.mem_append_right _ (List.mem_append_right _ (List.mem_append_right _ (List.mem_append_left _ h)))))))))))))))))))
theorem m_432 : Cond.fieldLink RX8 169 "TankChainModel" "number" "I" ∈ wsL_law := wr_r19 _ (List.mem_of_getElem? (i := 0) rfl)
theorem m_433 : Cond.constantLong RX8 188 (1752132708) ∈ wsL_law := wr_r19 _ (List.mem_of_getElem? (i := 1) rfl)
theorem m_434 : Cond.constantLong RX8 190 (1717660018) ∈ wsL_law := wr_r19 _ (List.mem_of_getElem? (i := 2) rfl)
theorem m_435 : Cond.methodLink RX8 174 yX8_takes ∈ wsL_law := wr_r19 _ (List.mem_of_getElem? (i := 3) rfl)
theorem m_436 : Cond.instanceMethod yX8_takes ∈ wsL_law := wr_r19 _ (List.mem_of_getElem? (i := 4) rfl)
theorem m_437 : Cond.selects RX8 yX8_takes yX8_takes ∈ wsL_law := wr_r19 _ (List.mem_of_getElem? (i := 5) rfl)
theorem m_438 : Cond.code yX8_takes cX8_takes 3 (some .boolean) ∈ wsL_law := wr_r19 _ (List.mem_of_getElem? (i := 6) rfl)
theorem m_439 : Cond.fieldLink RX8 162 "TankChainModel" "wordEnd" "I" ∈ wsL_law := wr_r19 _ (List.mem_of_getElem? (i := 7) rfl)
theorem m_440 : Cond.methodLink RX8 165 yX8_word ∈ wsL_law := wr_r19 _ (List.mem_of_getElem? (i := 8) rfl)
theorem m_441 : Cond.instanceMethod yX8_word ∈ wsL_law := wr_r19 _ (List.mem_of_getElem? (i := 9) rfl)
theorem m_442 : Cond.selects RX8 yX8_word yX8_word ∈ wsL_law := wr_r19 _ (List.mem_of_getElem? (i := 10) rfl)
theorem m_443 : Cond.code yX8_word cX8_word 3 (some .long) ∈ wsL_law := wr_r19 _ (List.mem_of_getElem? (i := 11) rfl)
theorem m_444 : Cond.methodLink RX8 184 yX8_takesNumber ∈ wsL_law := wr_r19 _ (List.mem_of_getElem? (i := 12) rfl)
theorem m_445 : Cond.instanceMethod yX8_takesNumber ∈ wsL_law := wr_r19 _ (List.mem_of_getElem? (i := 13) rfl)
theorem m_446 : Cond.selects RX8 yX8_takesNumber yX8_takesNumber ∈ wsL_law := wr_r19 _ (List.mem_of_getElem? (i := 14) rfl)
theorem m_447 : Cond.code yX8_takesNumber cX8_takesNumber 2 (some .boolean) ∈ wsL_law := wr_r19 _ (List.mem_of_getElem? (i := 15) rfl)
theorem wr_r20 : ∀ w ∈ wsL_law_r20, w ∈ wsL_law := fun w h => wr_in w (List.mem_append_right _ (List.mem_append_right _ (List.mem_append_right _ (List.mem_append_right _ (List.mem_append_right _ (List.mem_append_right _ (List.mem_append_right _ (List.mem_append_right _ (List.mem_append_right _ (List.mem_append_right _ (List.mem_append_right _ (List.mem_append_right _ (List.mem_append_right _ (List.mem_append_right _ (List.mem_append_right _ (List.mem_append_right _ (List.mem_append_right _ (List.mem_append_right _ (List.mem_append_right _ (List.mem_append_left _ h))))))))))))))))))))
theorem m_460 : Cond.fieldLink RX7 174 "TankChain$Flow" "sums" "LTankChain$Sums;" ∈ wsL_law := wr_r20 _ (List.mem_of_getElem? (i := 4) rfl)
theorem m_461 : Cond.methodLink RX7 159 yX7_addSilt ∈ wsL_law := wr_r20 _ (List.mem_of_getElem? (i := 5) rfl)
theorem m_462 : Cond.instanceMethod yX7_addSilt ∈ wsL_law := wr_r20 _ (List.mem_of_getElem? (i := 6) rfl)
theorem m_463 : Cond.selects RX7 yX7_addSilt yX7_addSilt ∈ wsL_law := wr_r20 _ (List.mem_of_getElem? (i := 7) rfl)
theorem m_464 : Cond.code yX7_addSilt cX7_addSilt 2 none ∈ wsL_law := wr_r20 _ (List.mem_of_getElem? (i := 8) rfl)
theorem m_465 : Cond.methodLink RX7 162 yX2_startFromNow ∈ wsL_law := wr_r20 _ (List.mem_of_getElem? (i := 9) rfl)
theorem m_466 : Cond.instanceMethod yX2_startFromNow ∈ wsL_law := wr_r20 _ (List.mem_of_getElem? (i := 10) rfl)
theorem m_467 : Cond.selects RX2 yX2_startFromNow yX2_startFromNow ∈ wsL_law := wr_r20 _ (List.mem_of_getElem? (i := 11) rfl)
theorem m_468 : Cond.code yX2_startFromNow cX2_startFromNow 2 none ∈ wsL_law := wr_r20 _ (List.mem_of_getElem? (i := 12) rfl)
theorem m_469 : Cond.fieldLink RX2 30 "TankChain$Tank" "after" "LTankChain$Pool;" ∈ wsL_law := wr_r20 _ (List.mem_of_getElem? (i := 13) rfl)
theorem m_470 : Cond.fieldLink RX2 36 "TankChain$Tank" "now" "LTankChain$Pool;" ∈ wsL_law := wr_r20 _ (List.mem_of_getElem? (i := 14) rfl)
theorem m_471 : Cond.fieldLink RX2 45 "TankChain$Tank" "below" "LTankChain$Tank;" ∈ wsL_law := wr_r20 _ (List.mem_of_getElem? (i := 15) rfl)
theorem m_472 : Cond.methodLink RX2 39 yX3_becomeAs ∈ wsL_law := wr_r20 _ (List.mem_of_getElem? (i := 16) rfl)
theorem m_473 : Cond.instanceMethod yX3_becomeAs ∈ wsL_law := wr_r20 _ (List.mem_of_getElem? (i := 17) rfl)
theorem m_474 : Cond.selects RX3 yX3_becomeAs yX3_becomeAs ∈ wsL_law := wr_r20 _ (List.mem_of_getElem? (i := 18) rfl)
theorem m_475 : Cond.code yX3_becomeAs cX3_becomeAs 2 none ∈ wsL_law := wr_r20 _ (List.mem_of_getElem? (i := 19) rfl)
theorem m_476 : Cond.methodLink RX7 165 yX2_passDay ∈ wsL_law := wr_r20 _ (List.mem_of_getElem? (i := 20) rfl)
theorem m_477 : Cond.instanceMethod yX2_passDay ∈ wsL_law := wr_r20 _ (List.mem_of_getElem? (i := 21) rfl)
theorem m_478 : Cond.selects RX2 yX2_passDay yX2_passDay ∈ wsL_law := wr_r20 _ (List.mem_of_getElem? (i := 22) rfl)
theorem m_479 : Cond.code yX2_passDay cX2_passDay 4 none ∈ wsL_law := wr_r20 _ (List.mem_of_getElem? (i := 23) rfl)
theorem wr_r21 : ∀ w ∈ wsL_law_r21, w ∈ wsL_law := fun w h => wr_in w (List.mem_append_right _ (List.mem_append_right _ (List.mem_append_right _ (List.mem_append_right _ (List.mem_append_right _ (List.mem_append_right _ (List.mem_append_right _ (List.mem_append_right _ (List.mem_append_right _ (List.mem_append_right _ (List.mem_append_right _ (List.mem_append_right _ (List.mem_append_right _ (List.mem_append_right _ (List.mem_append_right _ (List.mem_append_right _ (List.mem_append_right _ (List.mem_append_right _ (List.mem_append_right _ (List.mem_append_right _ (List.mem_append_left _ h)))))))))))))))))))))
theorem m_480 : Cond.fieldLink RX2 51 "TankChain$Tank" "catches" "I" ∈ wsL_law := wr_r21 _ (List.mem_of_getElem? (i := 0) rfl)
theorem m_481 : Cond.fieldLink RX2 58 "TankChain$Sums" "out" "I" ∈ wsL_law := wr_r21 _ (List.mem_of_getElem? (i := 1) rfl)
theorem m_482 : Cond.methodLink RX2 48 yX4_clear ∈ wsL_law := wr_r21 _ (List.mem_of_getElem? (i := 2) rfl)
theorem m_483 : Cond.instanceMethod yX4_clear ∈ wsL_law := wr_r21 _ (List.mem_of_getElem? (i := 3) rfl)
theorem m_484 : Cond.selects RX4 yX4_clear yX4_clear ∈ wsL_law := wr_r21 _ (List.mem_of_getElem? (i := 4) rfl)
theorem m_485 : Cond.code yX4_clear cX4_clear 1 none ∈ wsL_law := wr_r21 _ (List.mem_of_getElem? (i := 5) rfl)
theorem m_486 : Cond.methodLink RX2 54 yX2_sentDown ∈ wsL_law := wr_r21 _ (List.mem_of_getElem? (i := 6) rfl)
theorem m_487 : Cond.instanceMethod yX2_sentDown ∈ wsL_law := wr_r21 _ (List.mem_of_getElem? (i := 7) rfl)
theorem m_488 : Cond.selects RX2 yX2_sentDown yX2_sentDown ∈ wsL_law := wr_r21 _ (List.mem_of_getElem? (i := 8) rfl)
theorem m_489 : Cond.code yX2_sentDown cX2_sentDown 10 (some .int) ∈ wsL_law := wr_r21 _ (List.mem_of_getElem? (i := 9) rfl)
theorem m_490 : Cond.fieldLink RX2 61 "TankChain$Pool" "water" "I" ∈ wsL_law := wr_r21 _ (List.mem_of_getElem? (i := 10) rfl)
theorem m_491 : Cond.fieldLink RX2 68 "TankChain$Pool" "breached" "Z" ∈ wsL_law := wr_r21 _ (List.mem_of_getElem? (i := 11) rfl)
theorem m_492 : Cond.methodLink RX2 76 Lib.Math.max.name ∈ wsL_law := wr_r21 _ (List.mem_of_getElem? (i := 12) rfl)
theorem m_493 : Cond.fieldLink RX2 82 "TankChain$Tank" "bank" "I" ∈ wsL_law := wr_r21 _ (List.mem_of_getElem? (i := 13) rfl)
theorem m_494 : Cond.fieldLink RX2 85 "TankChain$Pool" "taken" "I" ∈ wsL_law := wr_r21 _ (List.mem_of_getElem? (i := 14) rfl)
theorem m_495 : Cond.fieldLink RX2 88 "TankChain$Pool" "spilt" "I" ∈ wsL_law := wr_r21 _ (List.mem_of_getElem? (i := 15) rfl)
theorem m_496 : Cond.fieldLink RX2 91 "TankChain$Sums" "rained" "I" ∈ wsL_law := wr_r21 _ (List.mem_of_getElem? (i := 16) rfl)
theorem m_497 : Cond.fieldLink RX2 94 "TankChain$Sums" "seeped" "I" ∈ wsL_law := wr_r21 _ (List.mem_of_getElem? (i := 17) rfl)
theorem m_498 : Cond.fieldLink RX2 97 "TankChain$Sums" "kept" "I" ∈ wsL_law := wr_r21 _ (List.mem_of_getElem? (i := 18) rfl)
theorem m_499 : Cond.methodLink RX2 64 yX2_takenByFields ∈ wsL_law := wr_r21 _ (List.mem_of_getElem? (i := 19) rfl)
theorem m_500 : Cond.instanceMethod yX2_takenByFields ∈ wsL_law := wr_r21 _ (List.mem_of_getElem? (i := 20) rfl)
theorem m_501 : Cond.selects RX2 yX2_takenByFields yX2_takenByFields ∈ wsL_law := wr_r21 _ (List.mem_of_getElem? (i := 21) rfl)
theorem m_502 : Cond.code yX2_takenByFields cX2_takenByFields 9 (some .int) ∈ wsL_law := wr_r21 _ (List.mem_of_getElem? (i := 22) rfl)
theorem m_503 : Cond.fieldLink RX2 100 "TankChain$Tank" "size" "I" ∈ wsL_law := wr_r21 _ (List.mem_of_getElem? (i := 23) rfl)
theorem wr_r22 : ∀ w ∈ wsL_law_r22, w ∈ wsL_law := fun w h => wr_in w (List.mem_append_right _ (List.mem_append_right _ (List.mem_append_right _ (List.mem_append_right _ (List.mem_append_right _ (List.mem_append_right _ (List.mem_append_right _ (List.mem_append_right _ (List.mem_append_right _ (List.mem_append_right _ (List.mem_append_right _ (List.mem_append_right _ (List.mem_append_right _ (List.mem_append_right _ (List.mem_append_right _ (List.mem_append_right _ (List.mem_append_right _ (List.mem_append_right _ (List.mem_append_right _ (List.mem_append_right _ (List.mem_append_right _ (List.mem_append_left _ h))))))))))))))))))))))
theorem m_504 : Cond.fieldLink RX2 103 "TankChain$Custom" "hold" "I" ∈ wsL_law := wr_r22 _ (List.mem_of_getElem? (i := 0) rfl)
theorem m_505 : Cond.fieldLink RX2 108 "TankChain$Pool" "opening" "I" ∈ wsL_law := wr_r22 _ (List.mem_of_getElem? (i := 1) rfl)
theorem m_506 : Cond.methodLink RX2 111 Lib.Math.min.name ∈ wsL_law := wr_r22 _ (List.mem_of_getElem? (i := 2) rfl)
theorem m_507 : Cond.fieldLink RX2 118 "TankChain$Custom" "near" "I" ∈ wsL_law := wr_r22 _ (List.mem_of_getElem? (i := 3) rfl)
theorem m_508 : Cond.fieldLink RX2 124 "TankChain$Custom" "fair" "Z" ∈ wsL_law := wr_r22 _ (List.mem_of_getElem? (i := 4) rfl)
theorem m_509 : Cond.fieldLink RX2 135 "TankChain$Tank" "firstField" "LTankChain$Field;" ∈ wsL_law := wr_r22 _ (List.mem_of_getElem? (i := 5) rfl)
theorem m_510 : Cond.fieldLink RX2 139 "TankChain$Field" "share" "I" ∈ wsL_law := wr_r22 _ (List.mem_of_getElem? (i := 6) rfl)
theorem m_511 : Cond.fieldLink RX2 148 "TankChain$Field" "area" "I" ∈ wsL_law := wr_r22 _ (List.mem_of_getElem? (i := 7) rfl)
theorem m_512 : Cond.fieldLink RX2 151 "TankChain$Field" "next" "LTankChain$Field;" ∈ wsL_law := wr_r22 _ (List.mem_of_getElem? (i := 8) rfl)
theorem m_513 : Cond.methodLink RX2 114 yX5_isBadYearWith ∈ wsL_law := wr_r22 _ (List.mem_of_getElem? (i := 9) rfl)
theorem m_514 : Cond.instanceMethod yX5_isBadYearWith ∈ wsL_law := wr_r22 _ (List.mem_of_getElem? (i := 10) rfl)
theorem m_515 : Cond.selects RX5 yX5_isBadYearWith yX5_isBadYearWith ∈ wsL_law := wr_r22 _ (List.mem_of_getElem? (i := 11) rfl)
theorem m_516 : Cond.code yX5_isBadYearWith cX5_isBadYearWith 2 (some .boolean) ∈ wsL_law := wr_r22 _ (List.mem_of_getElem? (i := 12) rfl)
theorem m_517 : Cond.methodLink RX2 121 yX2_areasWithin ∈ wsL_law := wr_r22 _ (List.mem_of_getElem? (i := 13) rfl)
theorem m_518 : Cond.static yX2_areasWithin ∈ wsL_law := wr_r22 _ (List.mem_of_getElem? (i := 14) rfl)
theorem m_519 : Cond.code yX2_areasWithin cX2_areasWithin 4 (some .int) ∈ wsL_law := wr_r22 _ (List.mem_of_getElem? (i := 15) rfl)
theorem m_520 : Cond.fieldLink RX2 154 "TankChain$Field" "far" "I" ∈ wsL_law := wr_r22 _ (List.mem_of_getElem? (i := 16) rfl)
theorem m_521 : Cond.methodLink RX2 127 yX2_shareFairly ∈ wsL_law := wr_r22 _ (List.mem_of_getElem? (i := 17) rfl)
theorem m_522 : Cond.static yX2_shareFairly ∈ wsL_law := wr_r22 _ (List.mem_of_getElem? (i := 18) rfl)
theorem m_523 : Cond.code yX2_shareFairly cX2_shareFairly 7 none ∈ wsL_law := wr_r22 _ (List.mem_of_getElem? (i := 19) rfl)
theorem m_524 : Cond.fieldLink RX2 157 "TankChain$Field" "remainder" "I" ∈ wsL_law := wr_r22 _ (List.mem_of_getElem? (i := 20) rfl)
theorem m_525 : Cond.methodLink RX2 160 yX2_giveOneMore ∈ wsL_law := wr_r22 _ (List.mem_of_getElem? (i := 21) rfl)
theorem m_526 : Cond.static yX2_giveOneMore ∈ wsL_law := wr_r22 _ (List.mem_of_getElem? (i := 22) rfl)
theorem m_527 : Cond.code yX2_giveOneMore cX2_giveOneMore 4 none ∈ wsL_law := wr_r22 _ (List.mem_of_getElem? (i := 23) rfl)
theorem wr_r23 : ∀ w ∈ wsL_law_r23, w ∈ wsL_law := fun w h => wr_in w (List.mem_append_right _ (List.mem_append_right _ (List.mem_append_right _ (List.mem_append_right _ (List.mem_append_right _ (List.mem_append_right _ (List.mem_append_right _ (List.mem_append_right _ (List.mem_append_right _ (List.mem_append_right _ (List.mem_append_right _ (List.mem_append_right _ (List.mem_append_right _ (List.mem_append_right _ (List.mem_append_right _ (List.mem_append_right _ (List.mem_append_right _ (List.mem_append_right _ (List.mem_append_right _ (List.mem_append_right _ (List.mem_append_right _ (List.mem_append_right _ (List.mem_append_left _ h)))))))))))))))))))))))
theorem m_528 : Cond.methodLink RX2 131 yX2_shareInOrder ∈ wsL_law := wr_r23 _ (List.mem_of_getElem? (i := 0) rfl)
theorem m_529 : Cond.static yX2_shareInOrder ∈ wsL_law := wr_r23 _ (List.mem_of_getElem? (i := 1) rfl)
theorem m_530 : Cond.code yX2_shareInOrder cX2_shareInOrder 5 none ∈ wsL_law := wr_r23 _ (List.mem_of_getElem? (i := 2) rfl)
theorem m_531 : Cond.methodLink RX2 144 yX1_isFed ∈ wsL_law := wr_r23 _ (List.mem_of_getElem? (i := 3) rfl)
theorem m_532 : Cond.instanceMethod yX1_isFed ∈ wsL_law := wr_r23 _ (List.mem_of_getElem? (i := 4) rfl)
theorem m_533 : Cond.selects RX1 yX1_isFed yX1_isFed ∈ wsL_law := wr_r23 _ (List.mem_of_getElem? (i := 5) rfl)
theorem m_534 : Cond.code yX1_isFed cX1_isFed 1 (some .boolean) ∈ wsL_law := wr_r23 _ (List.mem_of_getElem? (i := 6) rfl)
theorem m_535 : Cond.methodLink RX2 72 yX5_roomIf ∈ wsL_law := wr_r23 _ (List.mem_of_getElem? (i := 7) rfl)
theorem m_536 : Cond.methodLink RX7 168 yX7_keepTanks ∈ wsL_law := wr_r23 _ (List.mem_of_getElem? (i := 8) rfl)
theorem m_537 : Cond.instanceMethod yX7_keepTanks ∈ wsL_law := wr_r23 _ (List.mem_of_getElem? (i := 9) rfl)
theorem m_538 : Cond.selects RX7 yX7_keepTanks yX7_keepTanks ∈ wsL_law := wr_r23 _ (List.mem_of_getElem? (i := 10) rfl)
theorem m_539 : Cond.code yX7_keepTanks cX7_keepTanks 4 none ∈ wsL_law := wr_r23 _ (List.mem_of_getElem? (i := 11) rfl)
theorem m_540 : Cond.fieldLink RX7 274 "TankChain$Tank" "after" "LTankChain$Pool;" ∈ wsL_law := wr_r23 _ (List.mem_of_getElem? (i := 12) rfl)
theorem m_541 : Cond.fieldLink RX7 190 "TankChain$Tank" "breachedOn" "I" ∈ wsL_law := wr_r23 _ (List.mem_of_getElem? (i := 13) rfl)
theorem m_542 : Cond.fieldLink RX7 277 "TankChain$Tank" "number" "I" ∈ wsL_law := wr_r23 _ (List.mem_of_getElem? (i := 14) rfl)
theorem m_543 : Cond.methodLink RX7 278 yX3_becomeAs ∈ wsL_law := wr_r23 _ (List.mem_of_getElem? (i := 15) rfl)
theorem m_544 : Cond.methodLink RX7 171 yX7_keepFields ∈ wsL_law := wr_r23 _ (List.mem_of_getElem? (i := 16) rfl)
theorem m_545 : Cond.instanceMethod yX7_keepFields ∈ wsL_law := wr_r23 _ (List.mem_of_getElem? (i := 17) rfl)
theorem m_546 : Cond.selects RX7 yX7_keepFields yX7_keepFields ∈ wsL_law := wr_r23 _ (List.mem_of_getElem? (i := 18) rfl)
theorem m_547 : Cond.code yX7_keepFields cX7_keepFields 3 none ∈ wsL_law := wr_r23 _ (List.mem_of_getElem? (i := 19) rfl)
theorem m_548 : Cond.methodLink RX7 281 yX1_keepShare ∈ wsL_law := wr_r23 _ (List.mem_of_getElem? (i := 20) rfl)
theorem m_549 : Cond.instanceMethod yX1_keepShare ∈ wsL_law := wr_r23 _ (List.mem_of_getElem? (i := 21) rfl)
theorem m_550 : Cond.selects RX1 yX1_keepShare yX1_keepShare ∈ wsL_law := wr_r23 _ (List.mem_of_getElem? (i := 22) rfl)
theorem m_551 : Cond.code yX1_keepShare cX1_keepShare 1 none ∈ wsL_law := wr_r23 _ (List.mem_of_getElem? (i := 23) rfl)
theorem wr_r24 : ∀ w ∈ wsL_law_r24, w ∈ wsL_law := fun w h => wr_in w (List.mem_append_right _ (List.mem_append_right _ (List.mem_append_right _ (List.mem_append_right _ (List.mem_append_right _ (List.mem_append_right _ (List.mem_append_right _ (List.mem_append_right _ (List.mem_append_right _ (List.mem_append_right _ (List.mem_append_right _ (List.mem_append_right _ (List.mem_append_right _ (List.mem_append_right _ (List.mem_append_right _ (List.mem_append_right _ (List.mem_append_right _ (List.mem_append_right _ (List.mem_append_right _ (List.mem_append_right _ (List.mem_append_right _ (List.mem_append_right _ (List.mem_append_right _ (List.mem_append_left _ h))))))))))))))))))))))))
theorem m_552 : Cond.methodLink RX1 48 yX1_isFed ∈ wsL_law := wr_r24 _ (List.mem_of_getElem? (i := 0) rfl)
theorem m_553 : Cond.methodLink RX7 177 yX4_addAll ∈ wsL_law := wr_r24 _ (List.mem_of_getElem? (i := 1) rfl)
theorem m_554 : Cond.instanceMethod yX4_addAll ∈ wsL_law := wr_r24 _ (List.mem_of_getElem? (i := 2) rfl)
theorem m_555 : Cond.selects RX4 yX4_addAll yX4_addAll ∈ wsL_law := wr_r24 _ (List.mem_of_getElem? (i := 3) rfl)
theorem m_556 : Cond.code yX4_addAll cX4_addAll 2 none ∈ wsL_law := wr_r24 _ (List.mem_of_getElem? (i := 4) rfl)
theorem m_561 : Cond.fieldLink RX8 229 "TankChainModel" "rain" "I" ∈ wsL_law := wr_r24 _ (List.mem_of_getElem? (i := 9) rfl)
theorem m_562 : Cond.methodLink RX8 232 yX8_flows ∈ wsL_law := wr_r24 _ (List.mem_of_getElem? (i := 10) rfl)
theorem m_563 : Cond.instanceMethod yX8_flows ∈ wsL_law := wr_r24 _ (List.mem_of_getElem? (i := 11) rfl)
theorem m_564 : Cond.selects RX8 yX8_flows yX8_flows ∈ wsL_law := wr_r24 _ (List.mem_of_getElem? (i := 12) rfl)
theorem m_565 : Cond.code yX8_flows cX8_flows 16 (some .int) ∈ wsL_law := wr_r24 _ (List.mem_of_getElem? (i := 13) rfl)
theorem m_566 : Cond.fieldLink RX8 217 "TankChainModel" "seeped" "I" ∈ wsL_law := wr_r24 _ (List.mem_of_getElem? (i := 14) rfl)
theorem m_567 : Cond.fieldLink RX8 220 "TankChainModel" "kept" "I" ∈ wsL_law := wr_r24 _ (List.mem_of_getElem? (i := 15) rfl)
theorem m_568 : Cond.fieldLink RX8 223 "TankChainModel" "rained" "I" ∈ wsL_law := wr_r24 _ (List.mem_of_getElem? (i := 16) rfl)
theorem m_569 : Cond.fieldLink RX8 226 "TankChainModel" "out" "I" ∈ wsL_law := wr_r24 _ (List.mem_of_getElem? (i := 17) rfl)
theorem m_570 : Cond.methodLink RX8 213 yX8_gives ∈ wsL_law := wr_r24 _ (List.mem_of_getElem? (i := 18) rfl)
theorem m_571 : Cond.instanceMethod yX8_gives ∈ wsL_law := wr_r24 _ (List.mem_of_getElem? (i := 19) rfl)
theorem m_572 : Cond.selects RX8 yX8_gives yX8_gives ∈ wsL_law := wr_r24 _ (List.mem_of_getElem? (i := 20) rfl)
theorem m_573 : Cond.code yX8_gives cX8_gives 11 (some .int) ∈ wsL_law := wr_r24 _ (List.mem_of_getElem? (i := 21) rfl)
theorem m_574 : Cond.methodLink RX8 195 yX8_custom ∈ wsL_law := wr_r24 _ (List.mem_of_getElem? (i := 22) rfl)
theorem m_575 : Cond.instanceMethod yX8_custom ∈ wsL_law := wr_r24 _ (List.mem_of_getElem? (i := 23) rfl)
theorem wr_r25 : ∀ w ∈ wsL_law_r25, w ∈ wsL_law := fun w h => wr_in w (List.mem_append_right _ (List.mem_append_right _ (List.mem_append_right _ (List.mem_append_right _ (List.mem_append_right _ (List.mem_append_right _ (List.mem_append_right _ (List.mem_append_right _ (List.mem_append_right _ (List.mem_append_right _ (List.mem_append_right _ (List.mem_append_right _ (List.mem_append_right _ (List.mem_append_right _ (List.mem_append_right _ (List.mem_append_right _ (List.mem_append_right _ (List.mem_append_right _ (List.mem_append_right _ (List.mem_append_right _ (List.mem_append_right _ (List.mem_append_right _ (List.mem_append_right _ (List.mem_append_right _ (List.mem_append_left _ h)))))))))))))))))))))))))
theorem m_576 : Cond.selects RX8 yX8_custom yX8_custom ∈ wsL_law := wr_r25 _ (List.mem_of_getElem? (i := 0) rfl)
theorem m_577 : Cond.code yX8_custom cX8_custom 3 (some .int) ∈ wsL_law := wr_r25 _ (List.mem_of_getElem? (i := 1) rfl)
theorem m_578 : Cond.methodLink RX8 206 yX8_ordered ∈ wsL_law := wr_r25 _ (List.mem_of_getElem? (i := 2) rfl)
theorem m_579 : Cond.instanceMethod yX8_ordered ∈ wsL_law := wr_r25 _ (List.mem_of_getElem? (i := 3) rfl)
theorem m_580 : Cond.selects RX8 yX8_ordered yX8_ordered ∈ wsL_law := wr_r25 _ (List.mem_of_getElem? (i := 4) rfl)
theorem m_581 : Cond.code yX8_ordered cX8_ordered 5 (some .int) ∈ wsL_law := wr_r25 _ (List.mem_of_getElem? (i := 5) rfl)
theorem m_582 : Cond.methodLink RX8 202 yX8_isAhead ∈ wsL_law := wr_r25 _ (List.mem_of_getElem? (i := 6) rfl)
theorem m_583 : Cond.instanceMethod yX8_isAhead ∈ wsL_law := wr_r25 _ (List.mem_of_getElem? (i := 7) rfl)
theorem m_584 : Cond.selects RX8 yX8_isAhead yX8_isAhead ∈ wsL_law := wr_r25 _ (List.mem_of_getElem? (i := 8) rfl)
theorem m_585 : Cond.code yX8_isAhead cX8_isAhead 5 (some .boolean) ∈ wsL_law := wr_r25 _ (List.mem_of_getElem? (i := 9) rfl)
theorem m_586 : Cond.methodLink RX8 198 yX8_one ∈ wsL_law := wr_r25 _ (List.mem_of_getElem? (i := 10) rfl)
theorem m_587 : Cond.static yX8_one ∈ wsL_law := wr_r25 _ (List.mem_of_getElem? (i := 11) rfl)
theorem m_588 : Cond.code yX8_one cX8_one 1 (some .int) ∈ wsL_law := wr_r25 _ (List.mem_of_getElem? (i := 12) rfl)
theorem m_589 : Cond.methodLink RX8 210 yX8_isBad ∈ wsL_law := wr_r25 _ (List.mem_of_getElem? (i := 13) rfl)
theorem m_590 : Cond.instanceMethod yX8_isBad ∈ wsL_law := wr_r25 _ (List.mem_of_getElem? (i := 14) rfl)
theorem m_591 : Cond.selects RX8 yX8_isBad yX8_isBad ∈ wsL_law := wr_r25 _ (List.mem_of_getElem? (i := 15) rfl)
theorem m_592 : Cond.code yX8_isBad cX8_isBad 3 (some .boolean) ∈ wsL_law := wr_r25 _ (List.mem_of_getElem? (i := 16) rfl)
theorem m_597 : Cond.fieldLink RX7 184 "TankChain$Pool" "taken" "I" ∈ wsL_law := wr_r25 _ (List.mem_of_getElem? (i := 21) rfl)
theorem m_598 : Cond.fieldLink RX7 187 "TankChain$Pool" "spilt" "I" ∈ wsL_law := wr_r25 _ (List.mem_of_getElem? (i := 22) rfl)
theorem m_599 : Cond.methodLink RX7 181 yX7_asNumber ∈ wsL_law := wr_r25 _ (List.mem_of_getElem? (i := 23) rfl)
theorem wr_r26 : ∀ w ∈ wsL_law_r26, w ∈ wsL_law := fun w h => wr_in w (List.mem_append_right _ (List.mem_append_right _ (List.mem_append_right _ (List.mem_append_right _ (List.mem_append_right _ (List.mem_append_right _ (List.mem_append_right _ (List.mem_append_right _ (List.mem_append_right _ (List.mem_append_right _ (List.mem_append_right _ (List.mem_append_right _ (List.mem_append_right _ (List.mem_append_right _ (List.mem_append_right _ (List.mem_append_right _ (List.mem_append_right _ (List.mem_append_right _ (List.mem_append_right _ (List.mem_append_right _ (List.mem_append_right _ (List.mem_append_right _ (List.mem_append_right _ (List.mem_append_right _ (List.mem_append_right _ (List.mem_append_left _ h))))))))))))))))))))))))))
theorem m_600 : Cond.static yX7_asNumber ∈ wsL_law := wr_r26 _ (List.mem_of_getElem? (i := 0) rfl)
theorem m_601 : Cond.code yX7_asNumber cX7_asNumber 1 (some .int) ∈ wsL_law := wr_r26 _ (List.mem_of_getElem? (i := 1) rfl)
theorem m_602 : Cond.methodLink RX7 193 yX5_isBadYearWith ∈ wsL_law := wr_r26 _ (List.mem_of_getElem? (i := 2) rfl)
theorem m_611 : Cond.fieldLink RX7 204 "TankChain$Field" "far" "I" ∈ wsL_law := wr_r26 _ (List.mem_of_getElem? (i := 11) rfl)
theorem m_612 : Cond.fieldLink RX7 207 "TankChain$Field" "area" "I" ∈ wsL_law := wr_r26 _ (List.mem_of_getElem? (i := 12) rfl)
theorem m_613 : Cond.fieldLink RX7 210 "TankChain$Field" "owner" "I" ∈ wsL_law := wr_r26 _ (List.mem_of_getElem? (i := 13) rfl)
theorem m_614 : Cond.fieldLink RX7 213 "TankChain$Field" "temple" "Z" ∈ wsL_law := wr_r26 _ (List.mem_of_getElem? (i := 14) rfl)
theorem m_615 : Cond.fieldLink RX7 216 "TankChain$Field" "daysFed" "I" ∈ wsL_law := wr_r26 _ (List.mem_of_getElem? (i := 15) rfl)
theorem m_616 : Cond.fieldLink RX7 219 "TankChain$Field" "gotEver" "I" ∈ wsL_law := wr_r26 _ (List.mem_of_getElem? (i := 16) rfl)
theorem m_617 : Cond.fieldLink RX7 222 "TankChain$Field" "gotLately" "I" ∈ wsL_law := wr_r26 _ (List.mem_of_getElem? (i := 17) rfl)
theorem wr_r27 : ∀ w ∈ wsL_law_r27, w ∈ wsL_law := fun w h => wr_in w (List.mem_append_right _ (List.mem_append_right _ (List.mem_append_right _ (List.mem_append_right _ (List.mem_append_right _ (List.mem_append_right _ (List.mem_append_right _ (List.mem_append_right _ (List.mem_append_right _ (List.mem_append_right _ (List.mem_append_right _ (List.mem_append_right _ (List.mem_append_right _ (List.mem_append_right _ (List.mem_append_right _ (List.mem_append_right _ (List.mem_append_right _ (List.mem_append_right _ (List.mem_append_right _ (List.mem_append_right _ (List.mem_append_right _ (List.mem_append_right _ (List.mem_append_right _ (List.mem_append_right _ (List.mem_append_right _ (List.mem_append_right _ (List.mem_append_left _ h)))))))))))))))))))))))))))
theorem m_626 : Cond.fieldLink RX7 229 "TankChain$Field" "number" "I" ∈ wsL_law := wr_r27 _ (List.mem_of_getElem? (i := 2) rfl)
theorem m_627 : Cond.fieldLink RX7 232 "TankChain$Field" "next" "LTankChain$Field;" ∈ wsL_law := wr_r27 _ (List.mem_of_getElem? (i := 3) rfl)
theorem m_644 : Cond.methodLink RX7 235 yX7_mayTry ∈ wsL_law := wr_r27 _ (List.mem_of_getElem? (i := 20) rfl)
theorem m_645 : Cond.static yX7_mayTry ∈ wsL_law := wr_r27 _ (List.mem_of_getElem? (i := 21) rfl)
theorem m_646 : Cond.code yX7_mayTry cX7_mayTry 2 (some .boolean) ∈ wsL_law := wr_r27 _ (List.mem_of_getElem? (i := 22) rfl)
theorem m_647 : Cond.methodLink RX7 239 yX7_waterTried ∈ wsL_law := wr_r27 _ (List.mem_of_getElem? (i := 23) rfl)
theorem wr_r28 : ∀ w ∈ wsL_law_r28, w ∈ wsL_law := fun w h => wr_in w (List.mem_append_right _ (List.mem_append_right _ (List.mem_append_right _ (List.mem_append_right _ (List.mem_append_right _ (List.mem_append_right _ (List.mem_append_right _ (List.mem_append_right _ (List.mem_append_right _ (List.mem_append_right _ (List.mem_append_right _ (List.mem_append_right _ (List.mem_append_right _ (List.mem_append_right _ (List.mem_append_right _ (List.mem_append_right _ (List.mem_append_right _ (List.mem_append_right _ (List.mem_append_right _ (List.mem_append_right _ (List.mem_append_right _ (List.mem_append_right _ (List.mem_append_right _ (List.mem_append_right _ (List.mem_append_right _ (List.mem_append_right _ (List.mem_append_right _ (List.mem_append_left _ h))))))))))))))))))))))))))))
theorem m_648 : Cond.instanceMethod yX7_waterTried ∈ wsL_law := wr_r28 _ (List.mem_of_getElem? (i := 0) rfl)
theorem m_649 : Cond.selects RX7 yX7_waterTried yX7_waterTried ∈ wsL_law := wr_r28 _ (List.mem_of_getElem? (i := 1) rfl)
theorem m_650 : Cond.code yX7_waterTried cX7_waterTried 6 (some .int) ∈ wsL_law := wr_r28 _ (List.mem_of_getElem? (i := 2) rfl)
theorem m_655 : Cond.methodLink RX8 236 yX8_isTrial ∈ wsL_law := wr_r28 _ (List.mem_of_getElem? (i := 7) rfl)
theorem m_656 : Cond.static yX8_isTrial ∈ wsL_law := wr_r28 _ (List.mem_of_getElem? (i := 8) rfl)
theorem m_657 : Cond.code yX8_isTrial cX8_isTrial 2 (some .boolean) ∈ wsL_law := wr_r28 _ (List.mem_of_getElem? (i := 9) rfl)
theorem m_658 : Cond.methodLink RX8 239 yX8_openings ∈ wsL_law := wr_r28 _ (List.mem_of_getElem? (i := 10) rfl)
theorem m_659 : Cond.instanceMethod yX8_openings ∈ wsL_law := wr_r28 _ (List.mem_of_getElem? (i := 11) rfl)
theorem m_660 : Cond.selects RX8 yX8_openings yX8_openings ∈ wsL_law := wr_r28 _ (List.mem_of_getElem? (i := 12) rfl)
theorem m_661 : Cond.code yX8_openings cX8_openings 2 none ∈ wsL_law := wr_r28 _ (List.mem_of_getElem? (i := 13) rfl)
theorem m_662 : Cond.methodLink RX8 242 yX8_tries ∈ wsL_law := wr_r28 _ (List.mem_of_getElem? (i := 14) rfl)
theorem m_663 : Cond.instanceMethod yX8_tries ∈ wsL_law := wr_r28 _ (List.mem_of_getElem? (i := 15) rfl)
theorem m_664 : Cond.selects RX8 yX8_tries yX8_tries ∈ wsL_law := wr_r28 _ (List.mem_of_getElem? (i := 16) rfl)
theorem m_665 : Cond.code yX8_tries cX8_tries 5 (some .int) ∈ wsL_law := wr_r28 _ (List.mem_of_getElem? (i := 17) rfl)
theorem m_670 : Cond.constant RX7 243 (-100000) ∈ wsL_law := wr_r28 _ (List.mem_of_getElem? (i := 22) rfl)
theorem wr_r29 : ∀ w ∈ wsL_law_r29, w ∈ wsL_law := fun w h => wr_in w (List.mem_append_right _ (List.mem_append_right _ (List.mem_append_right _ (List.mem_append_right _ (List.mem_append_right _ (List.mem_append_right _ (List.mem_append_right _ (List.mem_append_right _ (List.mem_append_right _ (List.mem_append_right _ (List.mem_append_right _ (List.mem_append_right _ (List.mem_append_right _ (List.mem_append_right _ (List.mem_append_right _ (List.mem_append_right _ (List.mem_append_right _ (List.mem_append_right _ (List.mem_append_right _ (List.mem_append_right _ (List.mem_append_right _ (List.mem_append_right _ (List.mem_append_right _ (List.mem_append_right _ (List.mem_append_right _ (List.mem_append_right _ (List.mem_append_right _ (List.mem_append_right _ (List.mem_append_left _ h)))))))))))))))))))))))))))))
theorem m_675 : Cond.constant RX8 245 (-100000) ∈ wsL_law := wr_r29 _ (List.mem_of_getElem? (i := 3) rfl)
theorem m_680 : Cond.methodLink RX7 244 yX7_areasFedBy ∈ wsL_law := wr_r29 _ (List.mem_of_getElem? (i := 8) rfl)
theorem m_681 : Cond.instanceMethod yX7_areasFedBy ∈ wsL_law := wr_r29 _ (List.mem_of_getElem? (i := 9) rfl)
theorem m_682 : Cond.selects RX7 yX7_areasFedBy yX7_areasFedBy ∈ wsL_law := wr_r29 _ (List.mem_of_getElem? (i := 10) rfl)
theorem m_683 : Cond.code yX7_areasFedBy cX7_areasFedBy 8 (some .int) ∈ wsL_law := wr_r29 _ (List.mem_of_getElem? (i := 11) rfl)
theorem m_684 : Cond.fieldLink RX7 284 "TankChain$Flow" "areasFed" "I" ∈ wsL_law := wr_r29 _ (List.mem_of_getElem? (i := 12) rfl)
theorem m_685 : Cond.methodLink RX7 248 yX7_openingIn ∈ wsL_law := wr_r29 _ (List.mem_of_getElem? (i := 13) rfl)
theorem m_686 : Cond.static yX7_openingIn ∈ wsL_law := wr_r29 _ (List.mem_of_getElem? (i := 14) rfl)
theorem m_687 : Cond.code yX7_openingIn cX7_openingIn 4 (some .int) ∈ wsL_law := wr_r29 _ (List.mem_of_getElem? (i := 15) rfl)
theorem wr_r30 : ∀ w ∈ wsL_law_r30, w ∈ wsL_law := fun w h => wr_in w (List.mem_append_right _ (List.mem_append_right _ (List.mem_append_right _ (List.mem_append_right _ (List.mem_append_right _ (List.mem_append_right _ (List.mem_append_right _ (List.mem_append_right _ (List.mem_append_right _ (List.mem_append_right _ (List.mem_append_right _ (List.mem_append_right _ (List.mem_append_right _ (List.mem_append_right _ (List.mem_append_right _ (List.mem_append_right _ (List.mem_append_right _ (List.mem_append_right _ (List.mem_append_right _ (List.mem_append_right _ (List.mem_append_right _ (List.mem_append_right _ (List.mem_append_right _ (List.mem_append_right _ (List.mem_append_right _ (List.mem_append_right _ (List.mem_append_right _ (List.mem_append_right _ (List.mem_append_right _ (h))))))))))))))))))))))))))))))
theorem m_704 : Cond.fieldLink RX7 255 "TankChain$Sums" "out" "I" ∈ wsL_law := wr_r30 _ (List.mem_of_getElem? (i := 8) rfl)
theorem m_705 : Cond.fieldLink RX7 258 "TankChain$Sums" "seeped" "I" ∈ wsL_law := wr_r30 _ (List.mem_of_getElem? (i := 9) rfl)
theorem m_706 : Cond.fieldLink RX7 261 "TankChain$Sums" "kept" "I" ∈ wsL_law := wr_r30 _ (List.mem_of_getElem? (i := 10) rfl)
theorem m_707 : Cond.fieldLink RX7 264 "TankChain$Sums" "rained" "I" ∈ wsL_law := wr_r30 _ (List.mem_of_getElem? (i := 11) rfl)
theorem m_708 : Cond.methodLink RX7 251 yX7_allWater ∈ wsL_law := wr_r30 _ (List.mem_of_getElem? (i := 12) rfl)
theorem m_709 : Cond.instanceMethod yX7_allWater ∈ wsL_law := wr_r30 _ (List.mem_of_getElem? (i := 13) rfl)
theorem m_710 : Cond.selects RX7 yX7_allWater yX7_allWater ∈ wsL_law := wr_r30 _ (List.mem_of_getElem? (i := 14) rfl)
theorem m_711 : Cond.code yX7_allWater cX7_allWater 3 (some .int) ∈ wsL_law := wr_r30 _ (List.mem_of_getElem? (i := 15) rfl)
theorem fX0_0 : r_fld 0 0 RX0 TX0 6 (.array .int) := ⟨rfl, by decide, inlX0, rfl, rfl, tyX0_ok 0 (by decide), tyX0_ok, nmX0⟩
theorem fX0_1 : r_fld 0 1 RX0 TX0 6 (.int) := ⟨rfl, by decide, inlX0, rfl, rfl, tyX0_ok 1 (by decide), tyX0_ok, nmX0⟩
theorem fX0_2 : r_fld 0 2 RX0 TX0 6 (.int) := ⟨rfl, by decide, inlX0, rfl, rfl, tyX0_ok 2 (by decide), tyX0_ok, nmX0⟩
theorem fX0_3 : r_fld 0 3 RX0 TX0 6 (.int) := ⟨rfl, by decide, inlX0, rfl, rfl, tyX0_ok 3 (by decide), tyX0_ok, nmX0⟩
theorem fX0_4 : r_fld 0 4 RX0 TX0 6 (.boolean) := ⟨rfl, by decide, inlX0, rfl, rfl, tyX0_ok 4 (by decide), tyX0_ok, nmX0⟩
theorem fX0_5 : r_fld 0 5 RX0 TX0 6 (.int) := ⟨rfl, by decide, inlX0, rfl, rfl, tyX0_ok 5 (by decide), tyX0_ok, nmX0⟩
theorem fX1_0 : r_fld 1 0 RX1 TX1 12 (.int) := ⟨rfl, by decide, inlX1, rfl, rfl, tyX1_ok 0 (by decide), tyX1_ok, nmX1⟩
theorem fX1_1 : r_fld 1 1 RX1 TX1 12 (.int) := ⟨rfl, by decide, inlX1, rfl, rfl, tyX1_ok 1 (by decide), tyX1_ok, nmX1⟩
theorem fX1_2 : r_fld 1 2 RX1 TX1 12 (.int) := ⟨rfl, by decide, inlX1, rfl, rfl, tyX1_ok 2 (by decide), tyX1_ok, nmX1⟩
theorem fX1_3 : r_fld 1 3 RX1 TX1 12 (.int) := ⟨rfl, by decide, inlX1, rfl, rfl, tyX1_ok 3 (by decide), tyX1_ok, nmX1⟩
theorem fX1_4 : r_fld 1 4 RX1 TX1 12 (.int) := ⟨rfl, by decide, inlX1, rfl, rfl, tyX1_ok 4 (by decide), tyX1_ok, nmX1⟩
theorem fX1_5 : r_fld 1 5 RX1 TX1 12 (.boolean) := ⟨rfl, by decide, inlX1, rfl, rfl, tyX1_ok 5 (by decide), tyX1_ok, nmX1⟩
theorem fX1_6 : r_fld 1 6 RX1 TX1 12 (.object RX1) := ⟨rfl, by decide, inlX1, rfl, rfl, tyX1_ok 6 (by decide), tyX1_ok, nmX1⟩
theorem fX1_7 : r_fld 1 7 RX1 TX1 12 (.int) := ⟨rfl, by decide, inlX1, rfl, rfl, tyX1_ok 7 (by decide), tyX1_ok, nmX1⟩
theorem fX1_8 : r_fld 1 8 RX1 TX1 12 (.int) := ⟨rfl, by decide, inlX1, rfl, rfl, tyX1_ok 8 (by decide), tyX1_ok, nmX1⟩
theorem fX1_9 : r_fld 1 9 RX1 TX1 12 (.int) := ⟨rfl, by decide, inlX1, rfl, rfl, tyX1_ok 9 (by decide), tyX1_ok, nmX1⟩
theorem fX1_10 : r_fld 1 10 RX1 TX1 12 (.int) := ⟨rfl, by decide, inlX1, rfl, rfl, tyX1_ok 10 (by decide), tyX1_ok, nmX1⟩
theorem fX1_11 : r_fld 1 11 RX1 TX1 12 (.int) := ⟨rfl, by decide, inlX1, rfl, rfl, tyX1_ok 11 (by decide), tyX1_ok, nmX1⟩
theorem fX2_0 : r_fld 2 0 RX2 TX2 4 (.object RX5) := ⟨rfl, by decide, inlX2, rfl, rfl, tyX2_ok 0 (by decide), tyX2_ok, nmX2⟩
theorem fX2_1 : r_fld 2 1 RX2 TX2 4 (.object RX0) := ⟨rfl, by decide, inlX2, rfl, rfl, tyX2_ok 1 (by decide), tyX2_ok, nmX2⟩
theorem fX2_2 : r_fld 2 2 RX2 TX2 4 (.object RX4) := ⟨rfl, by decide, inlX2, rfl, rfl, tyX2_ok 2 (by decide), tyX2_ok, nmX2⟩
theorem fX2_3 : r_fld 2 3 RX2 TX2 4 (.int) := ⟨rfl, by decide, inlX2, rfl, rfl, tyX2_ok 3 (by decide), tyX2_ok, nmX2⟩
theorem fX3_0 : r_fld 3 0 RX3 TX3 5 (.int) := ⟨rfl, by decide, inlX3, rfl, rfl, tyX3_ok 0 (by decide), tyX3_ok, nmX3⟩
theorem fX3_1 : r_fld 3 1 RX3 TX3 5 (.int) := ⟨rfl, by decide, inlX3, rfl, rfl, tyX3_ok 1 (by decide), tyX3_ok, nmX3⟩
theorem fX3_2 : r_fld 3 2 RX3 TX3 5 (.boolean) := ⟨rfl, by decide, inlX3, rfl, rfl, tyX3_ok 2 (by decide), tyX3_ok, nmX3⟩
theorem fX3_3 : r_fld 3 3 RX3 TX3 5 (.int) := ⟨rfl, by decide, inlX3, rfl, rfl, tyX3_ok 3 (by decide), tyX3_ok, nmX3⟩
theorem fX3_4 : r_fld 3 4 RX3 TX3 5 (.int) := ⟨rfl, by decide, inlX3, rfl, rfl, tyX3_ok 4 (by decide), tyX3_ok, nmX3⟩
theorem fX4_0 : r_fld 4 0 RX4 TX4 4 (.int) := ⟨rfl, by decide, inlX4, rfl, rfl, tyX4_ok 0 (by decide), tyX4_ok, nmX4⟩
theorem fX4_1 : r_fld 4 1 RX4 TX4 4 (.int) := ⟨rfl, by decide, inlX4, rfl, rfl, tyX4_ok 1 (by decide), tyX4_ok, nmX4⟩
theorem fX4_2 : r_fld 4 2 RX4 TX4 4 (.int) := ⟨rfl, by decide, inlX4, rfl, rfl, tyX4_ok 2 (by decide), tyX4_ok, nmX4⟩
theorem fX4_3 : r_fld 4 3 RX4 TX4 4 (.int) := ⟨rfl, by decide, inlX4, rfl, rfl, tyX4_ok 3 (by decide), tyX4_ok, nmX4⟩
theorem fX5_0 : r_fld 5 0 RX5 TX5 10 (.int) := ⟨rfl, by decide, inlX5, rfl, rfl, tyX5_ok 0 (by decide), tyX5_ok, nmX5⟩
theorem fX5_1 : r_fld 5 1 RX5 TX5 10 (.object RX5) := ⟨rfl, by decide, inlX5, rfl, rfl, tyX5_ok 1 (by decide), tyX5_ok, nmX5⟩
theorem fX5_2 : r_fld 5 2 RX5 TX5 10 (.object RX3) := ⟨rfl, by decide, inlX5, rfl, rfl, tyX5_ok 2 (by decide), tyX5_ok, nmX5⟩
theorem fX5_3 : r_fld 5 3 RX5 TX5 10 (.object RX3) := ⟨rfl, by decide, inlX5, rfl, rfl, tyX5_ok 3 (by decide), tyX5_ok, nmX5⟩
theorem fX5_4 : r_fld 5 4 RX5 TX5 10 (.int) := ⟨rfl, by decide, inlX5, rfl, rfl, tyX5_ok 4 (by decide), tyX5_ok, nmX5⟩
theorem fX5_5 : r_fld 5 5 RX5 TX5 10 (.int) := ⟨rfl, by decide, inlX5, rfl, rfl, tyX5_ok 5 (by decide), tyX5_ok, nmX5⟩
theorem fX5_6 : r_fld 5 6 RX5 TX5 10 (.int) := ⟨rfl, by decide, inlX5, rfl, rfl, tyX5_ok 6 (by decide), tyX5_ok, nmX5⟩
theorem fX5_7 : r_fld 5 7 RX5 TX5 10 (.int) := ⟨rfl, by decide, inlX5, rfl, rfl, tyX5_ok 7 (by decide), tyX5_ok, nmX5⟩
theorem fX5_8 : r_fld 5 8 RX5 TX5 10 (.int) := ⟨rfl, by decide, inlX5, rfl, rfl, tyX5_ok 8 (by decide), tyX5_ok, nmX5⟩
theorem fX5_9 : r_fld 5 9 RX5 TX5 10 (.object RX1) := ⟨rfl, by decide, inlX5, rfl, rfl, tyX5_ok 9 (by decide), tyX5_ok, nmX5⟩
theorem fX6_0 : r_fld 6 0 RX6 TX6 6 (.array .byte) := ⟨rfl, by decide, inlX6, rfl, rfl, tyX6_ok 0 (by decide), tyX6_ok, nmX6⟩
theorem fX6_1 : r_fld 6 1 RX6 TX6 6 (.int) := ⟨rfl, by decide, inlX6, rfl, rfl, tyX6_ok 1 (by decide), tyX6_ok, nmX6⟩
theorem fX6_2 : r_fld 6 2 RX6 TX6 6 (.int) := ⟨rfl, by decide, inlX6, rfl, rfl, tyX6_ok 2 (by decide), tyX6_ok, nmX6⟩
theorem fX6_3 : r_fld 6 3 RX6 TX6 6 (.int) := ⟨rfl, by decide, inlX6, rfl, rfl, tyX6_ok 3 (by decide), tyX6_ok, nmX6⟩
theorem fX6_4 : r_fld 6 4 RX6 TX6 6 (.int) := ⟨rfl, by decide, inlX6, rfl, rfl, tyX6_ok 4 (by decide), tyX6_ok, nmX6⟩
theorem fX6_5 : r_fld 6 5 RX6 TX6 6 (.int) := ⟨rfl, by decide, inlX6, rfl, rfl, tyX6_ok 5 (by decide), tyX6_ok, nmX6⟩
theorem fX7_0 : r_fld 7 0 RX7 TX7 15 (.array (.object RX5)) := ⟨rfl, by decide, inlX7, rfl, rfl, tyX7_ok 0 (by decide), tyX7_ok, nmX7⟩
theorem fX7_1 : r_fld 7 1 RX7 TX7 15 (.array (.object RX1)) := ⟨rfl, by decide, inlX7, rfl, rfl, tyX7_ok 1 (by decide), tyX7_ok, nmX7⟩
theorem fX7_2 : r_fld 7 2 RX7 TX7 15 (.object RX6) := ⟨rfl, by decide, inlX7, rfl, rfl, tyX7_ok 2 (by decide), tyX7_ok, nmX7⟩
theorem fX7_3 : r_fld 7 3 RX7 TX7 15 (.object RX0) := ⟨rfl, by decide, inlX7, rfl, rfl, tyX7_ok 3 (by decide), tyX7_ok, nmX7⟩
theorem fX7_4 : r_fld 7 4 RX7 TX7 15 (.object RX0) := ⟨rfl, by decide, inlX7, rfl, rfl, tyX7_ok 4 (by decide), tyX7_ok, nmX7⟩
theorem fX7_5 : r_fld 7 5 RX7 TX7 15 (.object RX2) := ⟨rfl, by decide, inlX7, rfl, rfl, tyX7_ok 5 (by decide), tyX7_ok, nmX7⟩
theorem fX7_6 : r_fld 7 6 RX7 TX7 15 (.object RX4) := ⟨rfl, by decide, inlX7, rfl, rfl, tyX7_ok 6 (by decide), tyX7_ok, nmX7⟩
theorem fX7_7 : r_fld 7 7 RX7 TX7 15 (.int) := ⟨rfl, by decide, inlX7, rfl, rfl, tyX7_ok 7 (by decide), tyX7_ok, nmX7⟩
theorem fX7_8 : r_fld 7 8 RX7 TX7 15 (.int) := ⟨rfl, by decide, inlX7, rfl, rfl, tyX7_ok 8 (by decide), tyX7_ok, nmX7⟩
theorem fX7_9 : r_fld 7 9 RX7 TX7 15 (.int) := ⟨rfl, by decide, inlX7, rfl, rfl, tyX7_ok 9 (by decide), tyX7_ok, nmX7⟩
theorem fX7_10 : r_fld 7 10 RX7 TX7 15 (.int) := ⟨rfl, by decide, inlX7, rfl, rfl, tyX7_ok 10 (by decide), tyX7_ok, nmX7⟩
theorem fX7_11 : r_fld 7 11 RX7 TX7 15 (.int) := ⟨rfl, by decide, inlX7, rfl, rfl, tyX7_ok 11 (by decide), tyX7_ok, nmX7⟩
theorem fX7_12 : r_fld 7 12 RX7 TX7 15 (.int) := ⟨rfl, by decide, inlX7, rfl, rfl, tyX7_ok 12 (by decide), tyX7_ok, nmX7⟩
theorem fX7_13 : r_fld 7 13 RX7 TX7 15 (.int) := ⟨rfl, by decide, inlX7, rfl, rfl, tyX7_ok 13 (by decide), tyX7_ok, nmX7⟩
theorem fX7_14 : r_fld 7 14 RX7 TX7 15 (.int) := ⟨rfl, by decide, inlX7, rfl, rfl, tyX7_ok 14 (by decide), tyX7_ok, nmX7⟩
theorem fX8_0 : r_fld 8 0 RX8 TX8 47 (.int) := ⟨rfl, by decide, inlX8, rfl, rfl, tyX8_ok 0 (by decide), tyX8_ok, nmX8⟩
theorem fX8_1 : r_fld 8 1 RX8 TX8 47 (.int) := ⟨rfl, by decide, inlX8, rfl, rfl, tyX8_ok 1 (by decide), tyX8_ok, nmX8⟩
theorem fX8_2 : r_fld 8 2 RX8 TX8 47 (.int) := ⟨rfl, by decide, inlX8, rfl, rfl, tyX8_ok 2 (by decide), tyX8_ok, nmX8⟩
theorem fX8_3 : r_fld 8 3 RX8 TX8 47 (.int) := ⟨rfl, by decide, inlX8, rfl, rfl, tyX8_ok 3 (by decide), tyX8_ok, nmX8⟩
theorem fX8_4 : r_fld 8 4 RX8 TX8 47 (.array .int) := ⟨rfl, by decide, inlX8, rfl, rfl, tyX8_ok 4 (by decide), tyX8_ok, nmX8⟩
theorem fX8_5 : r_fld 8 5 RX8 TX8 47 (.array .int) := ⟨rfl, by decide, inlX8, rfl, rfl, tyX8_ok 5 (by decide), tyX8_ok, nmX8⟩
theorem fX8_6 : r_fld 8 6 RX8 TX8 47 (.array .int) := ⟨rfl, by decide, inlX8, rfl, rfl, tyX8_ok 6 (by decide), tyX8_ok, nmX8⟩
theorem fX8_7 : r_fld 8 7 RX8 TX8 47 (.array .int) := ⟨rfl, by decide, inlX8, rfl, rfl, tyX8_ok 7 (by decide), tyX8_ok, nmX8⟩
theorem fX8_8 : r_fld 8 8 RX8 TX8 47 (.array .int) := ⟨rfl, by decide, inlX8, rfl, rfl, tyX8_ok 8 (by decide), tyX8_ok, nmX8⟩
theorem fX8_9 : r_fld 8 9 RX8 TX8 47 (.array .int) := ⟨rfl, by decide, inlX8, rfl, rfl, tyX8_ok 9 (by decide), tyX8_ok, nmX8⟩
theorem fX8_10 : r_fld 8 10 RX8 TX8 47 (.array .int) := ⟨rfl, by decide, inlX8, rfl, rfl, tyX8_ok 10 (by decide), tyX8_ok, nmX8⟩
theorem fX8_11 : r_fld 8 11 RX8 TX8 47 (.array .int) := ⟨rfl, by decide, inlX8, rfl, rfl, tyX8_ok 11 (by decide), tyX8_ok, nmX8⟩
theorem fX8_12 : r_fld 8 12 RX8 TX8 47 (.array .int) := ⟨rfl, by decide, inlX8, rfl, rfl, tyX8_ok 12 (by decide), tyX8_ok, nmX8⟩
theorem fX8_13 : r_fld 8 13 RX8 TX8 47 (.array .boolean) := ⟨rfl, by decide, inlX8, rfl, rfl, tyX8_ok 13 (by decide), tyX8_ok, nmX8⟩
theorem fX8_14 : r_fld 8 14 RX8 TX8 47 (.array .int) := ⟨rfl, by decide, inlX8, rfl, rfl, tyX8_ok 14 (by decide), tyX8_ok, nmX8⟩
theorem fX8_15 : r_fld 8 15 RX8 TX8 47 (.array .int) := ⟨rfl, by decide, inlX8, rfl, rfl, tyX8_ok 15 (by decide), tyX8_ok, nmX8⟩
theorem fX8_16 : r_fld 8 16 RX8 TX8 47 (.array .int) := ⟨rfl, by decide, inlX8, rfl, rfl, tyX8_ok 16 (by decide), tyX8_ok, nmX8⟩
theorem fX8_17 : r_fld 8 17 RX8 TX8 47 (.array .int) := ⟨rfl, by decide, inlX8, rfl, rfl, tyX8_ok 17 (by decide), tyX8_ok, nmX8⟩
theorem fX8_18 : r_fld 8 18 RX8 TX8 47 (.array .int) := ⟨rfl, by decide, inlX8, rfl, rfl, tyX8_ok 18 (by decide), tyX8_ok, nmX8⟩
theorem fX8_19 : r_fld 8 19 RX8 TX8 47 (.array .int) := ⟨rfl, by decide, inlX8, rfl, rfl, tyX8_ok 19 (by decide), tyX8_ok, nmX8⟩
theorem fX8_20 : r_fld 8 20 RX8 TX8 47 (.array .int) := ⟨rfl, by decide, inlX8, rfl, rfl, tyX8_ok 20 (by decide), tyX8_ok, nmX8⟩
theorem fX8_21 : r_fld 8 21 RX8 TX8 47 (.array .boolean) := ⟨rfl, by decide, inlX8, rfl, rfl, tyX8_ok 21 (by decide), tyX8_ok, nmX8⟩
theorem fX8_22 : r_fld 8 22 RX8 TX8 47 (.array .int) := ⟨rfl, by decide, inlX8, rfl, rfl, tyX8_ok 22 (by decide), tyX8_ok, nmX8⟩
theorem fX8_23 : r_fld 8 23 RX8 TX8 47 (.int) := ⟨rfl, by decide, inlX8, rfl, rfl, tyX8_ok 23 (by decide), tyX8_ok, nmX8⟩
theorem fX8_24 : r_fld 8 24 RX8 TX8 47 (.int) := ⟨rfl, by decide, inlX8, rfl, rfl, tyX8_ok 24 (by decide), tyX8_ok, nmX8⟩
theorem fX8_25 : r_fld 8 25 RX8 TX8 47 (.int) := ⟨rfl, by decide, inlX8, rfl, rfl, tyX8_ok 25 (by decide), tyX8_ok, nmX8⟩
theorem fX8_26 : r_fld 8 26 RX8 TX8 47 (.int) := ⟨rfl, by decide, inlX8, rfl, rfl, tyX8_ok 26 (by decide), tyX8_ok, nmX8⟩
theorem fX8_27 : r_fld 8 27 RX8 TX8 47 (.int) := ⟨rfl, by decide, inlX8, rfl, rfl, tyX8_ok 27 (by decide), tyX8_ok, nmX8⟩
theorem fX8_28 : r_fld 8 28 RX8 TX8 47 (.int) := ⟨rfl, by decide, inlX8, rfl, rfl, tyX8_ok 28 (by decide), tyX8_ok, nmX8⟩
theorem fX8_29 : r_fld 8 29 RX8 TX8 47 (.int) := ⟨rfl, by decide, inlX8, rfl, rfl, tyX8_ok 29 (by decide), tyX8_ok, nmX8⟩
theorem fX8_30 : r_fld 8 30 RX8 TX8 47 (.int) := ⟨rfl, by decide, inlX8, rfl, rfl, tyX8_ok 30 (by decide), tyX8_ok, nmX8⟩
theorem fX8_31 : r_fld 8 31 RX8 TX8 47 (.array .byte) := ⟨rfl, by decide, inlX8, rfl, rfl, tyX8_ok 31 (by decide), tyX8_ok, nmX8⟩
theorem fX8_32 : r_fld 8 32 RX8 TX8 47 (.array .byte) := ⟨rfl, by decide, inlX8, rfl, rfl, tyX8_ok 32 (by decide), tyX8_ok, nmX8⟩
theorem fX8_33 : r_fld 8 33 RX8 TX8 47 (.int) := ⟨rfl, by decide, inlX8, rfl, rfl, tyX8_ok 33 (by decide), tyX8_ok, nmX8⟩
theorem fX8_34 : r_fld 8 34 RX8 TX8 47 (.int) := ⟨rfl, by decide, inlX8, rfl, rfl, tyX8_ok 34 (by decide), tyX8_ok, nmX8⟩
theorem fX8_35 : r_fld 8 35 RX8 TX8 47 (.int) := ⟨rfl, by decide, inlX8, rfl, rfl, tyX8_ok 35 (by decide), tyX8_ok, nmX8⟩
theorem fX8_36 : r_fld 8 36 RX8 TX8 47 (.int) := ⟨rfl, by decide, inlX8, rfl, rfl, tyX8_ok 36 (by decide), tyX8_ok, nmX8⟩
theorem fX8_37 : r_fld 8 37 RX8 TX8 47 (.array .int) := ⟨rfl, by decide, inlX8, rfl, rfl, tyX8_ok 37 (by decide), tyX8_ok, nmX8⟩
theorem fX8_38 : r_fld 8 38 RX8 TX8 47 (.boolean) := ⟨rfl, by decide, inlX8, rfl, rfl, tyX8_ok 38 (by decide), tyX8_ok, nmX8⟩
theorem fX8_39 : r_fld 8 39 RX8 TX8 47 (.int) := ⟨rfl, by decide, inlX8, rfl, rfl, tyX8_ok 39 (by decide), tyX8_ok, nmX8⟩
theorem fX8_40 : r_fld 8 40 RX8 TX8 47 (.int) := ⟨rfl, by decide, inlX8, rfl, rfl, tyX8_ok 40 (by decide), tyX8_ok, nmX8⟩
theorem fX8_41 : r_fld 8 41 RX8 TX8 47 (.array .int) := ⟨rfl, by decide, inlX8, rfl, rfl, tyX8_ok 41 (by decide), tyX8_ok, nmX8⟩
theorem fX8_42 : r_fld 8 42 RX8 TX8 47 (.array .int) := ⟨rfl, by decide, inlX8, rfl, rfl, tyX8_ok 42 (by decide), tyX8_ok, nmX8⟩
theorem fX8_43 : r_fld 8 43 RX8 TX8 47 (.array .boolean) := ⟨rfl, by decide, inlX8, rfl, rfl, tyX8_ok 43 (by decide), tyX8_ok, nmX8⟩
theorem fX8_44 : r_fld 8 44 RX8 TX8 47 (.array .int) := ⟨rfl, by decide, inlX8, rfl, rfl, tyX8_ok 44 (by decide), tyX8_ok, nmX8⟩
theorem fX8_45 : r_fld 8 45 RX8 TX8 47 (.array .int) := ⟨rfl, by decide, inlX8, rfl, rfl, tyX8_ok 45 (by decide), tyX8_ok, nmX8⟩
theorem fX8_46 : r_fld 8 46 RX8 TX8 47 (.array .boolean) := ⟨rfl, by decide, inlX8, rfl, rfl, tyX8_ok 46 (by decide), tyX8_ok, nmX8⟩
theorem hd_X0_init : (yX0_init).cls ≠ "java/lang/invoke/MethodHandle" ∧ (yX0_init).cls ≠ "java/lang/invoke/VarHandle" ∧ (parseMethodDescriptor (yX0_init).desc).map (fun d => d.parameters.length) = some 0 := by decide +kernel
theorem hd_X0_clear : (yX0_clear).cls ≠ "java/lang/invoke/MethodHandle" ∧ (yX0_clear).cls ≠ "java/lang/invoke/VarHandle" ∧ (parseMethodDescriptor (yX0_clear).desc).map (fun d => d.parameters.length) = some 0 := by decide +kernel
theorem hd_X0_addFirst : (yX0_addFirst).cls ≠ "java/lang/invoke/MethodHandle" ∧ (yX0_addFirst).cls ≠ "java/lang/invoke/VarHandle" ∧ (parseMethodDescriptor (yX0_addFirst).desc).map (fun d => d.parameters.length) = some 1 := by decide +kernel
theorem hd_X0_becomeAs : (yX0_becomeAs).cls ≠ "java/lang/invoke/MethodHandle" ∧ (yX0_becomeAs).cls ≠ "java/lang/invoke/VarHandle" ∧ (parseMethodDescriptor (yX0_becomeAs).desc).map (fun d => d.parameters.length) = some 1 := by decide +kernel
theorem hd_X0_rank : (yX0_rank).cls ≠ "java/lang/invoke/MethodHandle" ∧ (yX0_rank).cls ≠ "java/lang/invoke/VarHandle" ∧ (parseMethodDescriptor (yX0_rank).desc).map (fun d => d.parameters.length) = some 2 := by decide +kernel
theorem hd_X0_isAhead : (yX0_isAhead).cls ≠ "java/lang/invoke/MethodHandle" ∧ (yX0_isAhead).cls ≠ "java/lang/invoke/VarHandle" ∧ (parseMethodDescriptor (yX0_isAhead).desc).map (fun d => d.parameters.length) = some 2 := by decide +kernel
theorem hd_X1_init : (yX1_init).cls ≠ "java/lang/invoke/MethodHandle" ∧ (yX1_init).cls ≠ "java/lang/invoke/VarHandle" ∧ (parseMethodDescriptor (yX1_init).desc).map (fun d => d.parameters.length) = some 6 := by decide +kernel
theorem hd_X1_isFed : (yX1_isFed).cls ≠ "java/lang/invoke/MethodHandle" ∧ (yX1_isFed).cls ≠ "java/lang/invoke/VarHandle" ∧ (parseMethodDescriptor (yX1_isFed).desc).map (fun d => d.parameters.length) = some 0 := by decide +kernel
theorem hd_X1_keepShare : (yX1_keepShare).cls ≠ "java/lang/invoke/MethodHandle" ∧ (yX1_keepShare).cls ≠ "java/lang/invoke/VarHandle" ∧ (parseMethodDescriptor (yX1_keepShare).desc).map (fun d => d.parameters.length) = some 0 := by decide +kernel
theorem hd_X4_init : (yX4_init).cls ≠ "java/lang/invoke/MethodHandle" ∧ (yX4_init).cls ≠ "java/lang/invoke/VarHandle" ∧ (parseMethodDescriptor (yX4_init).desc).map (fun d => d.parameters.length) = some 0 := by decide +kernel
theorem hd_X2_init : (yX2_init).cls ≠ "java/lang/invoke/MethodHandle" ∧ (yX2_init).cls ≠ "java/lang/invoke/VarHandle" ∧ (parseMethodDescriptor (yX2_init).desc).map (fun d => d.parameters.length) = some 2 := by decide +kernel
theorem hd_X3_becomeAs : (yX3_becomeAs).cls ≠ "java/lang/invoke/MethodHandle" ∧ (yX3_becomeAs).cls ≠ "java/lang/invoke/VarHandle" ∧ (parseMethodDescriptor (yX3_becomeAs).desc).map (fun d => d.parameters.length) = some 1 := by decide +kernel
theorem hd_X2_startFromNow : (yX2_startFromNow).cls ≠ "java/lang/invoke/MethodHandle" ∧ (yX2_startFromNow).cls ≠ "java/lang/invoke/VarHandle" ∧ (parseMethodDescriptor (yX2_startFromNow).desc).map (fun d => d.parameters.length) = some 0 := by decide +kernel
theorem hd_X4_clear : (yX4_clear).cls ≠ "java/lang/invoke/MethodHandle" ∧ (yX4_clear).cls ≠ "java/lang/invoke/VarHandle" ∧ (parseMethodDescriptor (yX4_clear).desc).map (fun d => d.parameters.length) = some 0 := by decide +kernel
theorem hd_X5_isBadYearWith : (yX5_isBadYearWith).cls ≠ "java/lang/invoke/MethodHandle" ∧ (yX5_isBadYearWith).cls ≠ "java/lang/invoke/VarHandle" ∧ (parseMethodDescriptor (yX5_isBadYearWith).desc).map (fun d => d.parameters.length) = some 1 := by decide +kernel
theorem hd_X2_areasWithin : (yX2_areasWithin).cls ≠ "java/lang/invoke/MethodHandle" ∧ (yX2_areasWithin).cls ≠ "java/lang/invoke/VarHandle" ∧ (parseMethodDescriptor (yX2_areasWithin).desc).map (fun d => d.parameters.length) = some 2 := by decide +kernel
theorem hd_X2_giveOneMore : (yX2_giveOneMore).cls ≠ "java/lang/invoke/MethodHandle" ∧ (yX2_giveOneMore).cls ≠ "java/lang/invoke/VarHandle" ∧ (parseMethodDescriptor (yX2_giveOneMore).desc).map (fun d => d.parameters.length) = some 1 := by decide +kernel
theorem hd_X2_shareFairly : (yX2_shareFairly).cls ≠ "java/lang/invoke/MethodHandle" ∧ (yX2_shareFairly).cls ≠ "java/lang/invoke/VarHandle" ∧ (parseMethodDescriptor (yX2_shareFairly).desc).map (fun d => d.parameters.length) = some 4 := by decide +kernel
theorem hd_X2_shareInOrder : (yX2_shareInOrder).cls ≠ "java/lang/invoke/MethodHandle" ∧ (yX2_shareInOrder).cls ≠ "java/lang/invoke/VarHandle" ∧ (parseMethodDescriptor (yX2_shareInOrder).desc).map (fun d => d.parameters.length) = some 3 := by decide +kernel
theorem hd_X2_takenByFields : (yX2_takenByFields).cls ≠ "java/lang/invoke/MethodHandle" ∧ (yX2_takenByFields).cls ≠ "java/lang/invoke/VarHandle" ∧ (parseMethodDescriptor (yX2_takenByFields).desc).map (fun d => d.parameters.length) = some 2 := by decide +kernel
theorem hd_X5_roomIf : (yX5_roomIf).cls ≠ "java/lang/invoke/MethodHandle" ∧ (yX5_roomIf).cls ≠ "java/lang/invoke/VarHandle" ∧ (parseMethodDescriptor (yX5_roomIf).desc).map (fun d => d.parameters.length) = some 1 := by decide +kernel
theorem hd_X2_sentDown : (yX2_sentDown).cls ≠ "java/lang/invoke/MethodHandle" ∧ (yX2_sentDown).cls ≠ "java/lang/invoke/VarHandle" ∧ (parseMethodDescriptor (yX2_sentDown).desc).map (fun d => d.parameters.length) = some 3 := by decide +kernel
theorem hd_X2_passDay : (yX2_passDay).cls ≠ "java/lang/invoke/MethodHandle" ∧ (yX2_passDay).cls ≠ "java/lang/invoke/VarHandle" ∧ (parseMethodDescriptor (yX2_passDay).desc).map (fun d => d.parameters.length) = some 1 := by decide +kernel
theorem hd_X3_init : (yX3_init).cls ≠ "java/lang/invoke/MethodHandle" ∧ (yX3_init).cls ≠ "java/lang/invoke/VarHandle" ∧ (parseMethodDescriptor (yX3_init).desc).map (fun d => d.parameters.length) = some 0 := by decide +kernel
theorem hd_X4_addAll : (yX4_addAll).cls ≠ "java/lang/invoke/MethodHandle" ∧ (yX4_addAll).cls ≠ "java/lang/invoke/VarHandle" ∧ (parseMethodDescriptor (yX4_addAll).desc).map (fun d => d.parameters.length) = some 1 := by decide +kernel
theorem hd_X5_init : (yX5_init).cls ≠ "java/lang/invoke/MethodHandle" ∧ (yX5_init).cls ≠ "java/lang/invoke/VarHandle" ∧ (parseMethodDescriptor (yX5_init).desc).map (fun d => d.parameters.length) = some 2 := by decide +kernel
theorem hd_X5_putInOrder : (yX5_putInOrder).cls ≠ "java/lang/invoke/MethodHandle" ∧ (yX5_putInOrder).cls ≠ "java/lang/invoke/VarHandle" ∧ (parseMethodDescriptor (yX5_putInOrder).desc).map (fun d => d.parameters.length) = some 2 := by decide +kernel
theorem hd_X6_init : (yX6_init).cls ≠ "java/lang/invoke/MethodHandle" ∧ (yX6_init).cls ≠ "java/lang/invoke/VarHandle" ∧ (parseMethodDescriptor (yX6_init).desc).map (fun d => d.parameters.length) = some 0 := by decide +kernel
theorem hd_X6_putByte : (yX6_putByte).cls ≠ "java/lang/invoke/MethodHandle" ∧ (yX6_putByte).cls ≠ "java/lang/invoke/VarHandle" ∧ (parseMethodDescriptor (yX6_putByte).desc).map (fun d => d.parameters.length) = some 1 := by decide +kernel
theorem hd_X6_putFour : (yX6_putFour).cls ≠ "java/lang/invoke/MethodHandle" ∧ (yX6_putFour).cls ≠ "java/lang/invoke/VarHandle" ∧ (parseMethodDescriptor (yX6_putFour).desc).map (fun d => d.parameters.length) = some 1 := by decide +kernel
theorem hd_X6_byteAt : (yX6_byteAt).cls ≠ "java/lang/invoke/MethodHandle" ∧ (yX6_byteAt).cls ≠ "java/lang/invoke/VarHandle" ∧ (parseMethodDescriptor (yX6_byteAt).desc).map (fun d => d.parameters.length) = some 1 := by decide +kernel
theorem hd_X6_isBlank : (yX6_isBlank).cls ≠ "java/lang/invoke/MethodHandle" ∧ (yX6_isBlank).cls ≠ "java/lang/invoke/VarHandle" ∧ (parseMethodDescriptor (yX6_isBlank).desc).map (fun d => d.parameters.length) = some 1 := by decide +kernel
theorem hd_X6_isLetter : (yX6_isLetter).cls ≠ "java/lang/invoke/MethodHandle" ∧ (yX6_isLetter).cls ≠ "java/lang/invoke/VarHandle" ∧ (parseMethodDescriptor (yX6_isLetter).desc).map (fun d => d.parameters.length) = some 1 := by decide +kernel
theorem hd_X6_isDigit : (yX6_isDigit).cls ≠ "java/lang/invoke/MethodHandle" ∧ (yX6_isDigit).cls ≠ "java/lang/invoke/VarHandle" ∧ (parseMethodDescriptor (yX6_isDigit).desc).map (fun d => d.parameters.length) = some 1 := by decide +kernel
theorem hd_X6_nextToken : (yX6_nextToken).cls ≠ "java/lang/invoke/MethodHandle" ∧ (yX6_nextToken).cls ≠ "java/lang/invoke/VarHandle" ∧ (parseMethodDescriptor (yX6_nextToken).desc).map (fun d => d.parameters.length) = some 0 := by decide +kernel
theorem hd_X6_isWord : (yX6_isWord).cls ≠ "java/lang/invoke/MethodHandle" ∧ (yX6_isWord).cls ≠ "java/lang/invoke/VarHandle" ∧ (parseMethodDescriptor (yX6_isWord).desc).map (fun d => d.parameters.length) = some 1 := by decide +kernel
theorem hd_X6_readFirst : (yX6_readFirst).cls ≠ "java/lang/invoke/MethodHandle" ∧ (yX6_readFirst).cls ≠ "java/lang/invoke/VarHandle" ∧ (parseMethodDescriptor (yX6_readFirst).desc).map (fun d => d.parameters.length) = some 1 := by decide +kernel
theorem hd_X6_numberHere : (yX6_numberHere).cls ≠ "java/lang/invoke/MethodHandle" ∧ (yX6_numberHere).cls ≠ "java/lang/invoke/VarHandle" ∧ (parseMethodDescriptor (yX6_numberHere).desc).map (fun d => d.parameters.length) = some 0 := by decide +kernel
theorem hd_X6_readStatement : (yX6_readStatement).cls ≠ "java/lang/invoke/MethodHandle" ∧ (yX6_readStatement).cls ≠ "java/lang/invoke/VarHandle" ∧ (parseMethodDescriptor (yX6_readStatement).desc).map (fun d => d.parameters.length) = some 1 := by decide +kernel
theorem hd_X6_faultReading : (yX6_faultReading).cls ≠ "java/lang/invoke/MethodHandle" ∧ (yX6_faultReading).cls ≠ "java/lang/invoke/VarHandle" ∧ (parseMethodDescriptor (yX6_faultReading).desc).map (fun d => d.parameters.length) = some 2 := by decide +kernel
theorem hd_X7_tankAt : (yX7_tankAt).cls ≠ "java/lang/invoke/MethodHandle" ∧ (yX7_tankAt).cls ≠ "java/lang/invoke/VarHandle" ∧ (parseMethodDescriptor (yX7_tankAt).desc).map (fun d => d.parameters.length) = some 1 := by decide +kernel
theorem hd_X7_isWithin : (yX7_isWithin).cls ≠ "java/lang/invoke/MethodHandle" ∧ (yX7_isWithin).cls ≠ "java/lang/invoke/VarHandle" ∧ (parseMethodDescriptor (yX7_isWithin).desc).map (fun d => d.parameters.length) = some 3 := by decide +kernel
theorem hd_X7_fieldAt : (yX7_fieldAt).cls ≠ "java/lang/invoke/MethodHandle" ∧ (yX7_fieldAt).cls ≠ "java/lang/invoke/VarHandle" ∧ (parseMethodDescriptor (yX7_fieldAt).desc).map (fun d => d.parameters.length) = some 1 := by decide +kernel
theorem hd_X7_orderAnew : (yX7_orderAnew).cls ≠ "java/lang/invoke/MethodHandle" ∧ (yX7_orderAnew).cls ≠ "java/lang/invoke/VarHandle" ∧ (parseMethodDescriptor (yX7_orderAnew).desc).map (fun d => d.parameters.length) = some 0 := by decide +kernel
theorem hd_X7_addSilt : (yX7_addSilt).cls ≠ "java/lang/invoke/MethodHandle" ∧ (yX7_addSilt).cls ≠ "java/lang/invoke/VarHandle" ∧ (parseMethodDescriptor (yX7_addSilt).desc).map (fun d => d.parameters.length) = some 0 := by decide +kernel
theorem hd_X7_keepTanks : (yX7_keepTanks).cls ≠ "java/lang/invoke/MethodHandle" ∧ (yX7_keepTanks).cls ≠ "java/lang/invoke/VarHandle" ∧ (parseMethodDescriptor (yX7_keepTanks).desc).map (fun d => d.parameters.length) = some 0 := by decide +kernel
theorem hd_X7_keepFields : (yX7_keepFields).cls ≠ "java/lang/invoke/MethodHandle" ∧ (yX7_keepFields).cls ≠ "java/lang/invoke/VarHandle" ∧ (parseMethodDescriptor (yX7_keepFields).desc).map (fun d => d.parameters.length) = some 0 := by decide +kernel
theorem hd_X7_asNumber : (yX7_asNumber).cls ≠ "java/lang/invoke/MethodHandle" ∧ (yX7_asNumber).cls ≠ "java/lang/invoke/VarHandle" ∧ (parseMethodDescriptor (yX7_asNumber).desc).map (fun d => d.parameters.length) = some 1 := by decide +kernel
theorem hd_X7_mayTry : (yX7_mayTry).cls ≠ "java/lang/invoke/MethodHandle" ∧ (yX7_mayTry).cls ≠ "java/lang/invoke/VarHandle" ∧ (parseMethodDescriptor (yX7_mayTry).desc).map (fun d => d.parameters.length) = some 2 := by decide +kernel
theorem hd_X7_waterTried : (yX7_waterTried).cls ≠ "java/lang/invoke/MethodHandle" ∧ (yX7_waterTried).cls ≠ "java/lang/invoke/VarHandle" ∧ (parseMethodDescriptor (yX7_waterTried).desc).map (fun d => d.parameters.length) = some 4 := by decide +kernel
theorem hd_X7_openingIn : (yX7_openingIn).cls ≠ "java/lang/invoke/MethodHandle" ∧ (yX7_openingIn).cls ≠ "java/lang/invoke/VarHandle" ∧ (parseMethodDescriptor (yX7_openingIn).desc).map (fun d => d.parameters.length) = some 2 := by decide +kernel
theorem hd_X7_areasFedBy : (yX7_areasFedBy).cls ≠ "java/lang/invoke/MethodHandle" ∧ (yX7_areasFedBy).cls ≠ "java/lang/invoke/VarHandle" ∧ (parseMethodDescriptor (yX7_areasFedBy).desc).map (fun d => d.parameters.length) = some 5 := by decide +kernel
theorem hd_X7_allWater : (yX7_allWater).cls ≠ "java/lang/invoke/MethodHandle" ∧ (yX7_allWater).cls ≠ "java/lang/invoke/VarHandle" ∧ (parseMethodDescriptor (yX7_allWater).desc).map (fun d => d.parameters.length) = some 0 := by decide +kernel
theorem hd_X8_isIn : (yX8_isIn).cls ≠ "java/lang/invoke/MethodHandle" ∧ (yX8_isIn).cls ≠ "java/lang/invoke/VarHandle" ∧ (parseMethodDescriptor (yX8_isIn).desc).map (fun d => d.parameters.length) = some 3 := by decide +kernel
theorem hd_X8_one : (yX8_one).cls ≠ "java/lang/invoke/MethodHandle" ∧ (yX8_one).cls ≠ "java/lang/invoke/VarHandle" ∧ (parseMethodDescriptor (yX8_one).desc).map (fun d => d.parameters.length) = some 1 := by decide +kernel
theorem hd_X8_isTank : (yX8_isTank).cls ≠ "java/lang/invoke/MethodHandle" ∧ (yX8_isTank).cls ≠ "java/lang/invoke/VarHandle" ∧ (parseMethodDescriptor (yX8_isTank).desc).map (fun d => d.parameters.length) = some 1 := by decide +kernel
theorem hd_X8_room : (yX8_room).cls ≠ "java/lang/invoke/MethodHandle" ∧ (yX8_room).cls ≠ "java/lang/invoke/VarHandle" ∧ (parseMethodDescriptor (yX8_room).desc).map (fun d => d.parameters.length) = some 2 := by decide +kernel
theorem hd_X8_custom : (yX8_custom).cls ≠ "java/lang/invoke/MethodHandle" ∧ (yX8_custom).cls ≠ "java/lang/invoke/VarHandle" ∧ (parseMethodDescriptor (yX8_custom).desc).map (fun d => d.parameters.length) = some 2 := by decide +kernel
theorem hd_X8_four : (yX8_four).cls ≠ "java/lang/invoke/MethodHandle" ∧ (yX8_four).cls ≠ "java/lang/invoke/VarHandle" ∧ (parseMethodDescriptor (yX8_four).desc).map (fun d => d.parameters.length) = some 1 := by decide +kernel
theorem hd_X8_blanks : (yX8_blanks).cls ≠ "java/lang/invoke/MethodHandle" ∧ (yX8_blanks).cls ≠ "java/lang/invoke/VarHandle" ∧ (parseMethodDescriptor (yX8_blanks).desc).map (fun d => d.parameters.length) = some 0 := by decide +kernel
theorem hd_X8_word : (yX8_word).cls ≠ "java/lang/invoke/MethodHandle" ∧ (yX8_word).cls ≠ "java/lang/invoke/VarHandle" ∧ (parseMethodDescriptor (yX8_word).desc).map (fun d => d.parameters.length) = some 0 := by decide +kernel
theorem hd_X8_takes : (yX8_takes).cls ≠ "java/lang/invoke/MethodHandle" ∧ (yX8_takes).cls ≠ "java/lang/invoke/VarHandle" ∧ (parseMethodDescriptor (yX8_takes).desc).map (fun d => d.parameters.length) = some 1 := by decide +kernel
theorem hd_X8_takesNumber : (yX8_takesNumber).cls ≠ "java/lang/invoke/MethodHandle" ∧ (yX8_takesNumber).cls ≠ "java/lang/invoke/VarHandle" ∧ (parseMethodDescriptor (yX8_takesNumber).desc).map (fun d => d.parameters.length) = some 0 := by decide +kernel
theorem hd_X8_statement : (yX8_statement).cls ≠ "java/lang/invoke/MethodHandle" ∧ (yX8_statement).cls ≠ "java/lang/invoke/VarHandle" ∧ (parseMethodDescriptor (yX8_statement).desc).map (fun d => d.parameters.length) = some 0 := by decide +kernel
theorem hd_X8_isAhead : (yX8_isAhead).cls ≠ "java/lang/invoke/MethodHandle" ∧ (yX8_isAhead).cls ≠ "java/lang/invoke/VarHandle" ∧ (parseMethodDescriptor (yX8_isAhead).desc).map (fun d => d.parameters.length) = some 2 := by decide +kernel
theorem hd_X8_ordered : (yX8_ordered).cls ≠ "java/lang/invoke/MethodHandle" ∧ (yX8_ordered).cls ≠ "java/lang/invoke/VarHandle" ∧ (parseMethodDescriptor (yX8_ordered).desc).map (fun d => d.parameters.length) = some 1 := by decide +kernel
theorem hd_X8_isBad : (yX8_isBad).cls ≠ "java/lang/invoke/MethodHandle" ∧ (yX8_isBad).cls ≠ "java/lang/invoke/VarHandle" ∧ (parseMethodDescriptor (yX8_isBad).desc).map (fun d => d.parameters.length) = some 2 := by decide +kernel
theorem hd_X8_gives : (yX8_gives).cls ≠ "java/lang/invoke/MethodHandle" ∧ (yX8_gives).cls ≠ "java/lang/invoke/VarHandle" ∧ (parseMethodDescriptor (yX8_gives).desc).map (fun d => d.parameters.length) = some 3 := by decide +kernel
theorem hd_X8_flows : (yX8_flows).cls ≠ "java/lang/invoke/MethodHandle" ∧ (yX8_flows).cls ≠ "java/lang/invoke/VarHandle" ∧ (parseMethodDescriptor (yX8_flows).desc).map (fun d => d.parameters.length) = some 5 := by decide +kernel
theorem hd_X8_tries : (yX8_tries).cls ≠ "java/lang/invoke/MethodHandle" ∧ (yX8_tries).cls ≠ "java/lang/invoke/VarHandle" ∧ (parseMethodDescriptor (yX8_tries).desc).map (fun d => d.parameters.length) = some 2 := by decide +kernel
theorem hd_X8_openings : (yX8_openings).cls ≠ "java/lang/invoke/MethodHandle" ∧ (yX8_openings).cls ≠ "java/lang/invoke/VarHandle" ∧ (parseMethodDescriptor (yX8_openings).desc).map (fun d => d.parameters.length) = some 0 := by decide +kernel
theorem hd_X8_isTrial : (yX8_isTrial).cls ≠ "java/lang/invoke/MethodHandle" ∧ (yX8_isTrial).cls ≠ "java/lang/invoke/VarHandle" ∧ (parseMethodDescriptor (yX8_isTrial).desc).map (fun d => d.parameters.length) = some 2 := by decide +kernel
end
section
/-! ===== the literals' own methods: String.length, String.charAt over the texts of part 02 (a literal is its place i < 6) ===== -/
section JD
variable {p : Program} {l : Launch} {e : Env} {R : Room} {s : State} {m : MethodId} {args : Array Value} {below : List Frame} {meth : Method} {c : Code} {H : Heap} {locs : List Loc} {cells slots : Nat} {Q : State → Prop}
variable {cc : ByteArray} {nL : Nat} {own : String} {D : RG} {b : Nat} {h : AH} {pc : Nat} {ls : Array Slot} {rest : List Value} {α : Type} {Z : α}
theorem j_lit : ∀ i, i < 6 → r_len.getD i 0 < 2 ^ 31 ∧ (Int32.ofNat (r_len.getD i 0) >>> ((0 : Int32) &&& 31)) = Int32.ofNat (r_len.getD i 0) := by decide +kernel
theorem j_ch : ∀ i, i < 6 → ∀ k, k < r_len.getD i 0 → ((((r_byt.getD i []).getD k 0) &&& 255).toUInt32 % 65536).toInt32 = (r_byt.getD i []).getD k 0 ∧ narrow .char (.int ((r_byt.getD i []).getD k 0)) = .int ((r_byt.getD i []).getD k 0) := by decide +kernel
theorem j_get (X : r_C p c cc nL s m args own D b) (B : r_B D b s h H locs) {o n d : String} {v : Value} {t index : Nat} (hE : va_OF o n d v t (fun q => b ≤ q) s s.heap) (hlink : Cond.fieldLink own index o n d ∈ wsL_law) (hdg : decode cc pc = .ok (.getfield index, 3))
    (kk : W p l e R s m args below meth c H locs cells slots Q (F0 m (pc + 3) ls (v :: rest))) : W p l e R s m args below meth c H locs cells slots Q (F0 m pc ls (.ref t :: rest)) := by
  obtain ⟨cf, k, fi, f, cell, h1, h2, h3, h4, h5, h6⟩ := hE.kept B.2.2.1
  exact W.getf X.1.1 X.1.2.1 X.1.2.2.2.1 (X.1.2.2.2.2 _ hlink) h1 h2 h3 h4 (v := v) h5 rfl rfl hdg kk
theorem j_gets (X : r_C p c cc nL s m args own D b) (B : r_B D b s h H locs) {C n d : String} {v : Value} {index : Nat} (hZ : va_Z C n d v (fun q => b ≤ q) s s.heap) (hlink : Cond.fieldLink own index C n d ∈ wsL_law) (hdg : decode cc pc = .ok (.getstatic index, 3))
    (kk : W p l e R s m args below meth c H locs cells slots Q (F0 m (pc + 3) ls (v :: rest))) : W p l e R s m args below meth c H locs cells slots Q (F0 m pc ls rest) :=
  va_gets X.1.1 X.1.2.1 hZ B.2 X.1.2.2.2.1 (X.1.2.2.2.2 _ hlink) (fun _ z => z) hdg kk
set_option maxRecDepth 100000 in
set_option maxHeartbeats 4000000 in
theorem j_coder {i : Nat} (hi : i < 6) : Met l yJ0_coder_7d493 (Cond.code yJ0_coder_7d493 cJ0_coder_7d493 1 (some .byte) :: wsL_law) ({ frames := 0, cells := 0, slots := 0, locals := 0 } : Room) (va_Pc [.ref (D.2.2.2.1 i)] (r_I D b h)) (r_Q D b (some (.int 0)) h) 0 0 (fun q => b ≤ q) := by
  refine r_ofW (own := RJ0) rfl (by decide +kernel) (by simp [lg_sl, cat_i, cat_r, cat_l]) ?_
  intro p e s m args below meth c ls X B hr hk hn hl
  have hl : lv_has ls 1 [(0, .ref (D.2.2.2.1 i))] := by simpa [lv_args, cat_i, cat_r, cat_l] using hl
  obtain ⟨⟨hx, hb, hml, hown, hts⟩, -⟩ := id X
  obtain ⟨hO, hCo, hVa, hT⟩ := X.2.2.1.2.2.1 i hi
  generalize s.heap = H at B ⊢
  generalize ([] : List Loc) = locs at B ⊢
  refine j_gets X B X.2.2.1.1 m_344 dJ0_coder_7d493_0 ?_
  refine lv_if_eq (tgt := 13) hx hb dJ0_coder_7d493_3 (by decide) (fun q_ => absurd q_ (by decide)) (fun q_ => ?_)
  refine lv_aload_n hx hb dJ0_coder_7d493_6 rfl (lv_at hl 0 rfl) ?_
  refine j_get X B hCo m_345 dJ0_coder_7d493_7 ?_
  refine lv_goto (tgt := 14) hx hb dJ0_coder_7d493_10 (by decide) ?_
  exact W.zret hx hb hr rfl (r_endQ B _) (r_endL B) dJ0_coder_7d493_14
set_option maxRecDepth 100000 in
set_option maxHeartbeats 4000000 in
theorem j_length {i : Nat} (hi : i < 6) : Met l yJ0_length_8abf5 (Cond.code yJ0_length_8abf5 cJ0_length_8abf5 1 (some .int) :: wsL_law) ({ frames := 1, cells := 0, slots := 0, locals := 20 } : Room) (va_Pc [.ref (D.2.2.2.1 i)] (r_I D b h)) (r_Q D b (some (.int (Int32.ofNat (r_len.getD i 0)))) h) 0 0 (fun q => b ≤ q) := by
  refine r_ofW (own := RJ0) rfl (by decide +kernel) (by simp [lg_sl, cat_i, cat_r, cat_l]) ?_
  intro p e s m args below meth c ls X B hr hk hn hl
  have hl : lv_has ls 1 [(0, .ref (D.2.2.2.1 i))] := by simpa [lv_args, cat_i, cat_r, cat_l] using hl
  obtain ⟨⟨hx, hb, hml, hown, hts⟩, -⟩ := id X
  obtain ⟨hO, hCo, hVa, hT⟩ := X.2.2.1.2.2.1 i hi
  generalize hH : s.heap = H at B ⊢
  generalize ([] : List Loc) = locs at B ⊢
  refine lv_aload_n hx hb dJ0_length_8abf5_0 rfl (lv_at hl 0 rfl) ?_
  refine j_get X B hVa m_339 dJ0_length_8abf5_1 ?_
  refine va_tlen hx hb hT B.2 rfl dJ0_length_8abf5_4 ?_
  refine lv_aload_n hx hb dJ0_length_8abf5_5 rfl (lv_at hl 0 rfl) ?_
  refine r_call B (va_runV (As := []) (rest := [.int (Int32.ofNat (r_len.getD i 0))]) X.1 (j_coder (l := l) (D := D) (b := b) (h := h) hi) (r_cwV (n := 0) X rfl m_340 m_341 m_342 m_337 m_343 rfl rfl (by decide +kernel) ⟨Nat.le_of_ble_eq_true rfl, Nat.le_of_ble_eq_true rfl⟩) ⟨r_blind _, ?_, fun U hU hW => ⟨rfl, r_go X B hU hW⟩⟩ rfl rfl hl.1 rfl (lv_room (by simp [cat_i, cat_r, cat_l])) dJ0_length_8abf5_6 ⟨Nat.zero_le _, Nat.zero_le _⟩) ?_
  · obtain ⟨cell, g1, g2, g3, -⟩ := hO.kept B.2.2.1
    exact ⟨cell, g1, g2, g3⟩
  intro H locs B
  refine W.cs (cells' := 0) (slots' := 0) rfl rfl (W.eq (g2 := F0 m 9 ls [.int 0, .int (Int32.ofNat (r_len.getD i 0))]) rfl ?_)
  refine lv_ishr hx hb dJ0_length_8abf5_9 ?_
  rw [(j_lit i hi).2]
  exact W.iret hx hb hr (r_endQ B _) (r_endL B) dJ0_length_8abf5_10
set_option maxRecDepth 100000 in
set_option maxHeartbeats 4000000 in
theorem j_latin {i : Nat} (hi : i < 6) : Met l yJ0_isLatin1_aae02 (Cond.code yJ0_isLatin1_aae02 cJ0_isLatin1_aae02 1 (some .boolean) :: wsL_law) ({ frames := 0, cells := 0, slots := 0, locals := 0 } : Room) (va_Pc [.ref (D.2.2.2.1 i)] (r_I D b h)) (r_Q D b (some (.int 1)) h) 0 0 (fun q => b ≤ q) := by
  refine r_ofW (own := RJ0) rfl (by decide +kernel) (by simp [lg_sl, cat_i, cat_r, cat_l]) ?_
  intro p e s m args below meth c ls X B hr hk hn hl
  have hl : lv_has ls 1 [(0, .ref (D.2.2.2.1 i))] := by simpa [lv_args, cat_i, cat_r, cat_l] using hl
  obtain ⟨⟨hx, hb, hml, hown, hts⟩, -⟩ := id X
  obtain ⟨hO, hCo, hVa, hT⟩ := X.2.2.1.2.2.1 i hi
  generalize s.heap = H at B ⊢
  generalize ([] : List Loc) = locs at B ⊢
  refine j_gets X B X.2.2.1.1 m_344 dJ0_isLatin1_aae02_0 ?_
  refine lv_if_eq (tgt := 17) hx hb dJ0_isLatin1_aae02_3 (by decide) (fun q_ => absurd q_ (by decide)) (fun q_ => ?_)
  refine lv_aload_n hx hb dJ0_isLatin1_aae02_6 rfl (lv_at hl 0 rfl) ?_
  refine j_get X B hCo m_345 dJ0_isLatin1_aae02_7 ?_
  refine lv_if_ne (tgt := 17) hx hb dJ0_isLatin1_aae02_10 (by decide) (fun q_ => absurd rfl q_) (fun q_ => ?_)
  refine lv_iconst (v := 1) hx hb dJ0_isLatin1_aae02_13 (by decide) ?_
  refine lv_goto (tgt := 18) hx hb dJ0_isLatin1_aae02_14 (by decide) ?_
  exact W.zret hx hb hr rfl (r_endQ B _) (r_endL B) dJ0_isLatin1_aae02_18
set_option maxRecDepth 100000 in
set_option maxHeartbeats 4000000 in
theorem j_check3 {k n : Int32} {f : Option Nat} (h0 : ¬ k < 0) (h1 : k < n) : Met l yJ3_checkIndex_8e157 (Cond.code yJ3_checkIndex_8e157 cJ3_checkIndex_8e157 3 (some .int) :: wsL_law) ({ frames := 0, cells := 0, slots := 0, locals := 0 } : Room) (va_Pc [.int k, .int n, va_rf f] (r_I D b h)) (r_Q D b (some (.int k)) h) 0 0 (fun q => b ≤ q) := by
  refine r_ofW (own := RJ3) rfl (by decide +kernel) (by simp [lg_sl, va_cat, cat_i, cat_r, cat_l]) ?_
  intro p e s m args below meth c ls X B hr hk hn hl
  have hl : lv_has ls 3 [(0, .int k), (1, .int n), (2, va_rf f)] := by simpa [lv_args, va_cat, cat_i, cat_r, cat_l] using hl
  obtain ⟨⟨hx, hb, hml, hown, hts⟩, -⟩ := id X
  generalize s.heap = H at B ⊢
  generalize ([] : List Loc) = locs at B ⊢
  refine lv_iload_n hx hb dJ3_checkIndex_8e157_0 rfl (lv_at hl 0 rfl) ?_
  refine lv_if_lt (tgt := 9) hx hb dJ3_checkIndex_8e157_1 (by decide) (fun q_ => absurd q_ h0) (fun q_ => ?_)
  refine lv_iload_n hx hb dJ3_checkIndex_8e157_4 rfl (lv_at hl 0 rfl) ?_
  refine lv_iload_n hx hb dJ3_checkIndex_8e157_5 rfl (lv_at hl 1 rfl) ?_
  refine lv_icmp_lt (tgt := 16) hx hb dJ3_checkIndex_8e157_6 (by decide) (fun q_ => ?_) (fun q_ => absurd h1 q_)
  refine lv_iload_n hx hb dJ3_checkIndex_8e157_16 rfl (lv_at hl 0 rfl) ?_
  exact W.iret hx hb hr (r_endQ B _) (r_endL B) dJ3_checkIndex_8e157_17
set_option maxRecDepth 100000 in
set_option maxHeartbeats 4000000 in
theorem j_check0 {k n : Int32} (h0 : ¬ k < 0) (h1 : k < n) : Met l yJ0_checkIndex_df160 (Cond.code yJ0_checkIndex_df160 cJ0_checkIndex_df160 2 none :: wsL_law) ({ frames := 1, cells := 0, slots := 0, locals := 22 } : Room) (va_Pc [.int k, .int n] (r_I D b h)) (r_Q D b none h) 0 0 (fun q => b ≤ q) := by
  refine r_ofW (own := RJ0) rfl (by decide +kernel) (by simp [lg_sl, va_cat, cat_i, cat_r, cat_l]) ?_
  intro p e s m args below meth c ls X B hr hk hn hl
  have hl : lv_has ls 2 [(0, .int k), (1, .int n)] := by simpa [lv_args, va_cat, cat_i, cat_r, cat_l] using hl
  obtain ⟨⟨hx, hb, hml, hown, hts⟩, -⟩ := id X
  have hf : ∃ f : Option Nat, va_Z "jdk/internal/util/Preconditions" "SIOOBE_FORMATTER" "Ljava/util/function/BiFunction;" (va_rf f) (fun q => b ≤ q) s s.heap := by
    rcases X.2.2.1.2.1 with z | ⟨t, z⟩
    · exact ⟨none, z⟩
    · exact ⟨some t, z⟩
  obtain ⟨f, hf⟩ := hf
  generalize hH : s.heap = H at B ⊢
  generalize ([] : List Loc) = locs at B ⊢
  refine lv_iload_n hx hb dJ0_checkIndex_df160_0 rfl (lv_at hl 0 rfl) ?_
  refine lv_iload_n hx hb dJ0_checkIndex_df160_1 rfl (lv_at hl 1 rfl) ?_
  refine j_gets X B hf m_361 dJ0_checkIndex_df160_2 ?_
  refine r_call B (va_runS (As := [.int k, .int n, va_rf f]) (rest := []) X.1 (j_check3 (l := l) (D := D) (b := b) (h := h) h0 h1) (r_cwS (n := 3) X m_362 m_363 m_364 m_365 rfl rfl (by decide +kernel) ⟨Nat.le_of_ble_eq_true rfl, Nat.le_of_ble_eq_true rfl⟩) (r_preS X B [.int k, .int n, va_rf f]) rfl rfl hl.1 rfl (lv_room (by simp [cat_i, cat_r, cat_l])) dJ0_checkIndex_df160_5 ⟨Nat.zero_le _, Nat.zero_le _⟩) ?_
  intro H locs B
  refine W.cs (cells' := 0) (slots' := 0) rfl rfl (W.eq (g2 := F0 m 8 ls [.int k]) rfl ?_)
  refine lv_pop hx hb dJ0_checkIndex_df160_8 rfl ?_
  exact W.vret hx hb hr (r_endQ B _) (r_endL B) dJ0_checkIndex_df160_9
set_option maxRecDepth 100000 in
set_option maxHeartbeats 4000000 in
theorem j_charAt1 {i k : Nat} (hi : i < 6) (hk2 : k < r_len.getD i 0) : Met l yJ1_charAt_3b067 (Cond.code yJ1_charAt_3b067 cJ1_charAt_3b067 2 (some .char) :: wsL_law) ({ frames := 2, cells := 0, slots := 0, locals := 43 } : Room) (va_Pc [.ref (D.2.2.2.2 i), .int (nI k)] (r_I D b h)) (r_Q D b (some (.int ((r_byt.getD i []).getD k 0))) h) 0 0 (fun q => b ≤ q) := by
  refine r_ofW (own := RJ1) rfl (by decide +kernel) (by simp [lg_sl, va_cat, cat_i, cat_r, cat_l]) ?_
  intro p e s m args below meth c ls X B hr hk hn hl
  have hl : lv_has ls 2 [(0, .ref (D.2.2.2.2 i)), (1, .int (nI k))] := by simpa [lv_args, va_cat, cat_i, cat_r, cat_l] using hl
  obtain ⟨⟨hx, hb, hml, hown, hts⟩, -⟩ := id X
  obtain ⟨hO, hCo, hVa, hT⟩ := X.2.2.1.2.2.1 i hi
  have hN := (j_lit i hi).1
  generalize hH : s.heap = H at B ⊢
  generalize ([] : List Loc) = locs at B ⊢
  refine lv_iload_n hx hb dJ1_charAt_3b067_0 rfl (lv_at hl 1 rfl) ?_
  refine lv_aload_n hx hb dJ1_charAt_3b067_1 rfl (lv_at hl 0 rfl) ?_
  refine va_tlen hx hb hT B.2 (v := nI (r_len.getD i 0)) rfl dJ1_charAt_3b067_2 ?_
  refine r_call B (va_runS (As := [.int (nI k), .int (nI (r_len.getD i 0))]) (rest := []) X.1 (j_check0 (l := l) (D := D) (b := b) (h := h) (nI_pos (by omega)) (nI_lt hk2 (by omega))) (r_cwS (n := 2) X m_358 m_359 m_337 m_360 rfl rfl (by decide +kernel) ⟨Nat.le_of_ble_eq_true rfl, Nat.le_of_ble_eq_true rfl⟩) (r_preS X B [.int (nI k), .int (nI (r_len.getD i 0))]) rfl rfl hl.1 rfl (lv_room (by simp [cat_i, cat_r, cat_l])) dJ1_charAt_3b067_3 ⟨Nat.zero_le _, Nat.zero_le _⟩) ?_
  intro H1 locs B
  refine W.cs (cells' := 0) (slots' := 0) rfl rfl (W.eq (g2 := F0 m 6 ls []) rfl ?_)
  refine lv_aload_n hx hb dJ1_charAt_3b067_6 rfl (lv_at hl 0 rfl) ?_
  refine lv_iload_n hx hb dJ1_charAt_3b067_7 rfl (lv_at hl 1 rfl) ?_
  refine va_tb hx hb hT B.2 (vp_in_nI hk2 hN) (v := .int ((r_byt.getD i []).getD k 0)) (by rw [nI_clamp (by omega)]) dJ1_charAt_3b067_8 ?_
  refine lv_sipush (v := 255) hx hb dJ1_charAt_3b067_9 (by decide) ?_
  refine lv_iand hx hb dJ1_charAt_3b067_12 ?_
  refine lv_i2c hx hb dJ1_charAt_3b067_13 (j_ch i hi k hk2).1 ?_
  exact W.zret hx hb hr (j_ch i hi k hk2).2 (r_endQ B _) (r_endL B) dJ1_charAt_3b067_14
set_option maxRecDepth 100000 in
set_option maxHeartbeats 4000000 in
theorem j_charAt {i k : Nat} (hi : i < 6) (hk2 : k < r_len.getD i 0) : Met l yJ0_charAt_5068e (Cond.code yJ0_charAt_5068e cJ0_charAt_5068e 2 (some .char) :: wsL_law) ({ frames := 3, cells := 0, slots := 0, locals := 64 } : Room) (va_Pc [.ref (D.2.2.2.1 i), .int (nI k)] (r_I D b h)) (r_Q D b (some (.int ((r_byt.getD i []).getD k 0))) h) 0 0 (fun q => b ≤ q) := by
  refine r_ofW (own := RJ0) rfl (by decide +kernel) (by simp [lg_sl, va_cat, cat_i, cat_r, cat_l]) ?_
  intro p e s m args below meth c ls X B hr hk hn hl
  have hl : lv_has ls 2 [(0, .ref (D.2.2.2.1 i)), (1, .int (nI k))] := by simpa [lv_args, va_cat, cat_i, cat_r, cat_l] using hl
  obtain ⟨⟨hx, hb, hml, hown, hts⟩, -⟩ := id X
  obtain ⟨hO, hCo, hVa, hT⟩ := X.2.2.1.2.2.1 i hi
  generalize hH : s.heap = H at B ⊢
  generalize ([] : List Loc) = locs at B ⊢
  refine lv_aload_n hx hb dJ0_charAt_5068e_0 rfl (lv_at hl 0 rfl) ?_
  refine r_call B (va_runV (As := []) (rest := []) X.1 (j_latin (l := l) (D := D) (b := b) (h := h) hi) (r_cwV (n := 0) X rfl m_350 m_351 m_352 m_337 m_353 rfl rfl (by decide +kernel) ⟨Nat.le_of_ble_eq_true rfl, Nat.le_of_ble_eq_true rfl⟩) ⟨r_blind _, ?_, fun U hU hW => ⟨rfl, r_go X B hU hW⟩⟩ rfl rfl hl.1 rfl (lv_room (by simp [cat_i, cat_r, cat_l])) dJ0_charAt_5068e_1 ⟨Nat.zero_le _, Nat.zero_le _⟩) ?_
  · obtain ⟨cell, g1, g2, g3, -⟩ := hO.kept B.2.2.1
    exact ⟨cell, g1, g2, g3⟩
  intro H1 locs B
  refine W.cs (cells' := 0) (slots' := 0) rfl rfl (W.eq (g2 := F0 m 4 ls [.int 1]) rfl ?_)
  refine lv_if_eq (tgt := 16) hx hb dJ0_charAt_5068e_4 (by decide) (fun q_ => absurd q_ (by decide)) (fun q_ => ?_)
  refine lv_aload_n hx hb dJ0_charAt_5068e_7 rfl (lv_at hl 0 rfl) ?_
  refine j_get X B hVa m_339 dJ0_charAt_5068e_8 ?_
  refine lv_iload_n hx hb dJ0_charAt_5068e_11 rfl (lv_at hl 1 rfl) ?_
  refine r_call B (va_runS (As := [.ref (D.2.2.2.2 i), .int (nI k)]) (rest := []) X.1 (j_charAt1 (l := l) (D := D) (b := b) (h := h) hi hk2) (r_cwS (n := 2) X m_354 m_355 m_356 m_357 rfl rfl (by decide +kernel) ⟨Nat.le_of_ble_eq_true rfl, Nat.le_of_ble_eq_true rfl⟩) (r_preS X B [.ref (D.2.2.2.2 i), .int (nI k)]) rfl rfl hl.1 rfl (lv_room (by simp [cat_i, cat_r, cat_l])) dJ0_charAt_5068e_12 ⟨Nat.zero_le _, Nat.zero_le _⟩) ?_
  intro H2 locs B
  refine W.cs (cells' := 0) (slots' := 0) rfl rfl (W.eq (g2 := F0 m 15 ls [.int ((r_byt.getD i []).getD k 0)]) rfl ?_)
  exact W.zret hx hb hr (j_ch i hi k hk2).2 (r_endQ B _) (r_endL B) dJ0_charAt_5068e_15
/-! the two as rows -/
def stL (i : Nat) (K : Int32 → Option α) : Option α := if i < 6 then K (Int32.ofNat (r_len.getD i 0)) else none
def stC (i : Nat) (k : Int32) (K : Int32 → Option α) : Option α := if i < 6 ∧ ¬ k < 0 ∧ k.toNatClampNeg < r_len.getD i 0 then K ((r_byt.getD i []).getD k.toNatClampNeg 0) else none
theorem r_stL (X : r_C p c cc nL s m args RX6 D b) (B : r_B D b s h H locs) {i : Nat} {K : Int32 → Option α} (hf : stL i K = some Z) (hR : 2 ≤ R.frames ∧ 40 ≤ R.locals) (hl : ls.size = nL) (hroom : (rest.map fun v => v.category).sum ≤ 8) (hdg : decode cc pc = .ok (.invokevirtual 83, 3)) (hcs : cells ≤ R.cells ∧ slots ≤ R.slots)
    (kk : ∀ (v : Int32) (H1 : Heap) (locs1 : List Loc), r_B D b s h H1 locs1 → K v = some Z → W p l e R s m args below meth c H1 locs1 cells slots Q (F0 m (pc + 3) ls (.int v :: rest))) : W p l e R s m args below meth c H locs cells slots Q (F0 m pc ls (.ref (D.2.2.2.1 i) :: rest)) := by
  unfold stL at hf
  by_cases hi : i < 6
  · rw [if_pos hi] at hf
    obtain ⟨hO, hCo, hVa, hT⟩ := X.2.2.1.2.2.1 i hi
    refine r_call B (va_runV (As := []) (rest := rest) X.1 (j_length (l := l) (D := D) (b := b) (h := h) hi) (r_cwV (n := 0) X rfl m_334 m_335 m_336 m_337 m_338 rfl rfl (by decide +kernel) ⟨hR.1, hR.2⟩) ⟨r_blind _, ?_, fun U hU hW => ⟨rfl, r_go X B hU hW⟩⟩ rfl rfl hl rfl (lv_room hroom) hdg ⟨hcs.1, hcs.2⟩) ?_
    · obtain ⟨cell, g1, g2, g3, -⟩ := hO.kept B.2.2.1
      exact ⟨cell, g1, g2, g3⟩
    · intro H1 locs1 B1
      exact kk _ H1 locs1 B1 hf
  · rw [if_neg hi] at hf
    cases hf
theorem r_stC (X : r_C p c cc nL s m args RX6 D b) (B : r_B D b s h H locs) {i : Nat} {k : Int32} {K : Int32 → Option α} (hf : stC i k K = some Z) (hR : 4 ≤ R.frames ∧ 85 ≤ R.locals) (hl : ls.size = nL) (hroom : (rest.map fun v => v.category).sum ≤ 8) (hdg : decode cc pc = .ok (.invokevirtual 91, 3)) (hcs : cells ≤ R.cells ∧ slots ≤ R.slots)
    (kk : ∀ (v : Int32) (H1 : Heap) (locs1 : List Loc), r_B D b s h H1 locs1 → K v = some Z → W p l e R s m args below meth c H1 locs1 cells slots Q (F0 m (pc + 3) ls (.int v :: rest))) : W p l e R s m args below meth c H locs cells slots Q (F0 m pc ls (.int k :: .ref (D.2.2.2.1 i) :: rest)) := by
  unfold stC at hf
  by_cases hi : i < 6 ∧ ¬ k < 0 ∧ k.toNatClampNeg < r_len.getD i 0
  · rw [if_pos hi] at hf
    obtain ⟨hi, h0, hk2⟩ := hi
    obtain ⟨j, hj, rfl⟩ := nI_of h0
    rw [nI_clamp hj] at hf hk2
    obtain ⟨hO, hCo, hVa, hT⟩ := X.2.2.1.2.2.1 i hi
    refine r_call B (va_runV (As := [.int (nI j)]) (rest := rest) X.1 (j_charAt (l := l) (D := D) (b := b) (h := h) hi hk2) (r_cwV (n := 1) X rfl m_346 m_347 m_348 m_337 m_349 rfl rfl (by decide +kernel) ⟨hR.1, hR.2⟩) ⟨r_blind _, ?_, fun U hU hW => ⟨rfl, r_go X B hU hW⟩⟩ rfl rfl hl rfl (lv_room hroom) hdg ⟨hcs.1, hcs.2⟩) ?_
    · obtain ⟨cell, g1, g2, g3, -⟩ := hO.kept B.2.2.1
      exact ⟨cell, g1, g2, g3⟩
    · intro H1 locs1 B1
      exact kk _ H1 locs1 B1 hf
  · rw [if_neg hi] at hf
    cases hf
end JD
end
section
def f_X0_init (h : AH) (l0 : Nat) : Option (Unit × AH) := nA h .int 10 10 (fun a1 h2 => pR h2 (some l0) 0 0 (some a1) (fun h3 => pI h3 (some l0) 0 1 0 (fun h4 => pI h4 (some l0) 0 2 9 (fun h5 => pI h5 (some l0) 0 3 0 (fun h6 => pZ h6 (some l0) 0 4 0 (fun h7 => pI h7 (some l0) 0 5 0 (fun h8 => some ((), h8))))))))
set_option maxRecDepth 100000 in
set_option maxHeartbeats 4000000 in
theorem c_X0_init {l : Launch} {D : RG} {b : Nat} {h : AH} {l0 : Nat} {vv : Unit} {hh : AH} (hf : f_X0_init h l0 = some (vv, hh)) : Met l yX0_init (Cond.code yX0_init cX0_init 1 none :: wsL_law) ({ frames := 1, cells := 1, slots := 10, locals := 12 } : Room) (va_Pc [.ref l0] (r_I D b h)) (r_Q D b none hh) 1 10 (fun q => b ≤ q) := by
  refine r_ofW (own := RX0) rfl (by decide +kernel) (by simp [lg_sl, va_cat, cat_i, cat_r, cat_l]) ?_
  intro p e s m args below meth c ls X B hr hk hn hl
  have hl : lv_has ls 1 [(0, va_rf (some l0))] := by simpa [lv_args, va_cat, cat_i, cat_r, cat_l] using hl
  obtain ⟨⟨hx, hb, hml, hown, hts⟩, -⟩ := id X
  generalize s.heap = H at B ⊢
  generalize ([] : List Loc) = locs at B ⊢
  unfold f_X0_init at hf
  refine r_aload_n hx hb dX0_init_0 rfl (lv_at hl 0 rfl) ?_
  refine W.objInit hx hb hown (hts _ m_66) (hts _ m_14) (hts _ m_15) rfl (by rw [hml]; exact hl.1) rfl dX0_init_1 (Nat.le_of_ble_eq_true rfl) (Nat.le_of_ble_eq_true rfl) ?_
  refine W.eq (g2 := F0 m 4 ls []) rfl ?_
  refine r_aload_n hx hb dX0_init_4 rfl (lv_at hl 0 rfl) ?_
  refine lv_bipush (v := 10) hx hb dX0_init_5 (by decide) ?_
  refine r_newA X B hf rfl (by decide) m_67 (Nat.le_of_ble_eq_true rfl) (by decide) (by decide) rfl (fun _ _ z => z) dX0_init_7 (fun a1 h2 H B hf => ?_)
  refine W.cs (cells' := 1) (slots' := 10) rfl rfl ?_
  refine r_pR X B hf fX0_0 rfl (Or.inr ⟨rfl, hn, rfl⟩) m_68 dX0_init_9 (fun h3 H locs B hf => ?_)
  refine r_aload_n hx hb dX0_init_12 rfl (lv_at hl 0 rfl) ?_
  refine lv_iconst (v := 0) hx hb dX0_init_13 (by decide) ?_
  refine r_pI X B hf fX0_1 (Or.inl rfl) m_69 dX0_init_14 (fun h4 H locs B hf => ?_)
  refine r_aload_n hx hb dX0_init_17 rfl (lv_at hl 0 rfl) ?_
  refine lv_bipush (v := 9) hx hb dX0_init_18 (by decide) ?_
  refine r_pI X B hf fX0_2 (Or.inl rfl) m_70 dX0_init_20 (fun h5 H locs B hf => ?_)
  refine r_aload_n hx hb dX0_init_23 rfl (lv_at hl 0 rfl) ?_
  refine lv_iconst (v := 0) hx hb dX0_init_24 (by decide) ?_
  refine r_pI X B hf fX0_3 (Or.inl rfl) m_71 dX0_init_25 (fun h6 H locs B hf => ?_)
  refine r_aload_n hx hb dX0_init_28 rfl (lv_at hl 0 rfl) ?_
  refine lv_iconst (v := 0) hx hb dX0_init_29 (by decide) ?_
  refine r_pZ X B hf fX0_4 (Or.inl rfl) m_72 dX0_init_30 (fun h7 H locs B hf => ?_)
  refine r_aload_n hx hb dX0_init_33 rfl (lv_at hl 0 rfl) ?_
  refine lv_iconst (v := 0) hx hb dX0_init_34 (by decide) ?_
  refine r_pI X B hf fX0_5 (Or.inl rfl) m_73 dX0_init_35 (fun h8 H locs B hf => ?_)
  exact r_vret X B hr hk hf dX0_init_38
def f_X0_clear (h : AH) (l0 : Nat) : Option (Unit × AH) := pI h (some l0) 0 1 0 (fun h1 => pI h1 (some l0) 0 2 9 (fun h2 => pI h2 (some l0) 0 3 0 (fun h3 => pZ h3 (some l0) 0 4 0 (fun h4 => pI h4 (some l0) 0 5 0 (fun h5 => some ((), h5))))))
set_option maxRecDepth 100000 in
set_option maxHeartbeats 4000000 in
theorem c_X0_clear {l : Launch} {D : RG} {b : Nat} {h : AH} {l0 : Nat} {vv : Unit} {hh : AH} (hf : f_X0_clear h l0 = some (vv, hh)) : Met l yX0_clear (Cond.code yX0_clear cX0_clear 1 none :: wsL_law) ({ frames := 0, cells := 0, slots := 0, locals := 0 } : Room) (va_Pc [.ref l0] (r_I D b h)) (r_Q D b none hh) 0 0 (fun q => b ≤ q) := by
  refine r_ofW (own := RX0) rfl (by decide +kernel) (by simp [lg_sl, va_cat, cat_i, cat_r, cat_l]) ?_
  intro p e s m args below meth c ls X B hr hk hn hl
  have hl : lv_has ls 1 [(0, va_rf (some l0))] := by simpa [lv_args, va_cat, cat_i, cat_r, cat_l] using hl
  obtain ⟨⟨hx, hb, hml, hown, hts⟩, -⟩ := id X
  generalize s.heap = H at B ⊢
  generalize ([] : List Loc) = locs at B ⊢
  unfold f_X0_clear at hf
  refine r_aload_n hx hb dX0_clear_0 rfl (lv_at hl 0 rfl) ?_
  refine lv_iconst (v := 0) hx hb dX0_clear_1 (by decide) ?_
  refine r_pI X B hf fX0_1 (Or.inl rfl) m_69 dX0_clear_2 (fun h1 H locs B hf => ?_)
  refine r_aload_n hx hb dX0_clear_5 rfl (lv_at hl 0 rfl) ?_
  refine lv_bipush (v := 9) hx hb dX0_clear_6 (by decide) ?_
  refine r_pI X B hf fX0_2 (Or.inl rfl) m_70 dX0_clear_8 (fun h2 H locs B hf => ?_)
  refine r_aload_n hx hb dX0_clear_11 rfl (lv_at hl 0 rfl) ?_
  refine lv_iconst (v := 0) hx hb dX0_clear_12 (by decide) ?_
  refine r_pI X B hf fX0_3 (Or.inl rfl) m_71 dX0_clear_13 (fun h3 H locs B hf => ?_)
  refine r_aload_n hx hb dX0_clear_16 rfl (lv_at hl 0 rfl) ?_
  refine lv_iconst (v := 0) hx hb dX0_clear_17 (by decide) ?_
  refine r_pZ X B hf fX0_4 (Or.inl rfl) m_72 dX0_clear_18 (fun h4 H locs B hf => ?_)
  refine r_aload_n hx hb dX0_clear_21 rfl (lv_at hl 0 rfl) ?_
  refine lv_iconst (v := 0) hx hb dX0_clear_22 (by decide) ?_
  refine r_pI X B hf fX0_5 (Or.inl rfl) m_73 dX0_clear_23 (fun h5 H locs B hf => ?_)
  exact r_vret X B hr hk hf dX0_clear_26
def f_X0_addFirst_32 (h : AH)  : Option (Unit × AH) := some ((), h)
def f_X0_addFirst (h : AH) (l0 : Nat) (l1 : Int32) : Option (Unit × AH) := gI h (some l0) 0 1 (fun v1 => gR h (some l0) 0 0 (fun v2 => aL (.int) h v2 (fun v3 => if v3 ≤ v1 then f_X0_addFirst_32 h else gR h (some l0) 0 0 (fun v4 => gI h (some l0) 0 1 (fun v5 => sI .int h v4 v5 l1 (fun h6 => gI h6 (some l0) 0 1 (fun v7 => pI h6 (some l0) 0 1 (v7 + 1) (fun h8 => f_X0_addFirst_32 h8))))))))
set_option maxRecDepth 100000 in
set_option maxHeartbeats 4000000 in
theorem t_X0_addFirst_32 {p : Program} {l : Launch} {e : Env} {s : State} {m : MethodId} {args : Array Value} {below : List Frame} {meth : Method} {c : Code} {D : RG} {b : Nat} {vv : Unit} {hh : AH} (X : r_C p c cX0_addFirst 2 s m args RX0 D b) (hr : meth.sig.returnType = none) (hk : meth.locks = false) (hn : meth.name = "addFirst") {h : AH} {H : Heap} {locs : List Loc} {ls : Array Slot}  (B : r_B D b s h H locs) (hl : lv_has ls 2 []) (hf : f_X0_addFirst_32 h  = some (vv, hh)) : W p l e ({ frames := 0, cells := 0, slots := 0, locals := 0 } : Room) s m args below meth c H locs 0 0 (MQ below (r_Q D b none hh) args s 0 0 (fun q => b ≤ q)) (F0 m 32 ls []) := by
  obtain ⟨⟨hx, hb, hml, hown, hts⟩, -⟩ := id X
  unfold f_X0_addFirst_32 at hf
  exact r_vret X B hr hk hf dX0_addFirst_32
set_option maxRecDepth 100000 in
set_option maxHeartbeats 4000000 in
theorem c_X0_addFirst {l : Launch} {D : RG} {b : Nat} {h : AH} {l0 : Nat} {l1 : Int32} {vv : Unit} {hh : AH} (hf : f_X0_addFirst h l0 l1 = some (vv, hh)) : Met l yX0_addFirst (Cond.code yX0_addFirst cX0_addFirst 2 none :: wsL_law) ({ frames := 0, cells := 0, slots := 0, locals := 0 } : Room) (va_Pc [.ref l0, .int l1] (r_I D b h)) (r_Q D b none hh) 0 0 (fun q => b ≤ q) := by
  refine r_ofW (own := RX0) rfl (by decide +kernel) (by simp [lg_sl, va_cat, cat_i, cat_r, cat_l]) ?_
  intro p e s m args below meth c ls X B hr hk hn hl
  have hl : lv_has ls 2 [(0, va_rf (some l0)), (1, .int l1)] := by simpa [lv_args, va_cat, cat_i, cat_r, cat_l] using hl
  obtain ⟨⟨hx, hb, hml, hown, hts⟩, -⟩ := id X
  generalize s.heap = H at B ⊢
  generalize ([] : List Loc) = locs at B ⊢
  unfold f_X0_addFirst at hf
  refine r_aload_n hx hb dX0_addFirst_0 rfl (lv_at hl 0 rfl) ?_
  refine r_gI X B hf fX0_1 (fun _ _ => rfl) m_69 dX0_addFirst_1 (fun v1 hf => ?_)
  refine r_aload_n hx hb dX0_addFirst_4 rfl (lv_at hl 0 rfl) ?_
  refine r_gR X B hf fX0_0 (fun _ _ => rfl) m_68 dX0_addFirst_5 (fun v2 hf => ?_)
  refine r_aL X B hf (by decide) dX0_addFirst_8 (fun v3 hf => ?_)
  refine lv_icmp_ge (tgt := 32) hx hb dX0_addFirst_9 (by decide) (fun q_ => ?_) (fun q_ => ?_)
  · have hf := (r_ite hf).1 q_
    exact t_X0_addFirst_32 X hr hk hn  B (lv_sub hl [] rfl) hf
  · have hf := (r_ite hf).2 q_
    refine r_aload_n hx hb dX0_addFirst_12 rfl (lv_at hl 0 rfl) ?_
    refine r_gR X B hf fX0_0 (fun _ _ => rfl) m_68 dX0_addFirst_13 (fun v4 hf => ?_)
    refine r_aload_n hx hb dX0_addFirst_16 rfl (lv_at hl 0 rfl) ?_
    refine r_gI X B hf fX0_1 (fun _ _ => rfl) m_69 dX0_addFirst_17 (fun v5 hf => ?_)
    refine lv_iload_n hx hb dX0_addFirst_20 rfl (lv_at hl 1 rfl) ?_
    refine r_sIi X B hf dX0_addFirst_21 (fun h6 H locs B hf => ?_)
    refine r_aload_n hx hb dX0_addFirst_22 rfl (lv_at hl 0 rfl) ?_
    refine lv_dup hx hb dX0_addFirst_23 (va_cat _) ?_
    refine r_gI X B hf fX0_1 (fun _ _ => rfl) m_69 dX0_addFirst_24 (fun v7 hf => ?_)
    refine lv_iconst (v := 1) hx hb dX0_addFirst_27 (by decide) ?_
    refine lv_iadd hx hb dX0_addFirst_28 ?_
    refine r_pI X B hf fX0_1 (Or.inl rfl) m_69 dX0_addFirst_29 (fun h8 H locs B hf => ?_)
    exact t_X0_addFirst_32 X hr hk hn  B (lv_sub hl [] rfl) hf
def f_X0_becomeAs_39 (h : AH) (l0 : Nat) (l1 : Option Nat) : Option (Unit × AH) := gI h l1 0 2 (fun v1 => pI h (some l0) 0 2 v1 (fun h2 => gI h2 l1 0 3 (fun v3 => pI h2 (some l0) 0 3 v3 (fun h4 => gI h4 l1 0 4 (fun v5 => pZ h4 (some l0) 0 4 v5 (fun h6 => gI h6 l1 0 5 (fun v7 => pI h6 (some l0) 0 5 v7 (fun h8 => some ((), h8)))))))))
def f_X0_becomeAs_6 : Nat → AH → Nat → Option Nat → Int32 → Option (Unit × AH)
  | 0, _, _, _, _ => none
  | n + 1, h, l0, l1, l2 => gI h l1 0 1 (fun v9 => if v9 ≤ l2 then f_X0_becomeAs_39 h l0 l1 else gR h l1 0 0 (fun v10 => aL (.int) h v10 (fun v11 => if v11 ≤ l2 then f_X0_becomeAs_39 h l0 l1 else gR h l1 0 0 (fun v12 => aI .int h v12 l2 (fun v13 => rcv h (some l0) 0 (fun a17 => cal (f_X0_addFirst h a17 v13) (fun v14 h15 => bd (l2 + 1) (fun v20 => f_X0_becomeAs_6 n h15 l0 l1 v20))))))))
def f_X0_becomeAs (h : AH) (l0 : Nat) (l1 : Option Nat) : Option (Unit × AH) := rcv h (some l0) 0 (fun a24 => cal (f_X0_clear h a24) (fun v21 h22 => f_X0_becomeAs_6 FU h22 l0 l1 0))
set_option maxRecDepth 100000 in
set_option maxHeartbeats 4000000 in
theorem t_X0_becomeAs_39 {p : Program} {l : Launch} {e : Env} {s : State} {m : MethodId} {args : Array Value} {below : List Frame} {meth : Method} {c : Code} {D : RG} {b : Nat} {vv : Unit} {hh : AH} (X : r_C p c cX0_becomeAs 3 s m args RX0 D b) (hr : meth.sig.returnType = none) (hk : meth.locks = false) (hn : meth.name = "becomeAs") {h : AH} {H : Heap} {locs : List Loc} {ls : Array Slot} {l0 : Nat} {l1 : Option Nat} (B : r_B D b s h H locs) (hl : lv_has ls 3 [(0, va_rf (some l0)), (1, va_rf l1)]) (hf : f_X0_becomeAs_39 h l0 l1 = some (vv, hh)) : W p l e ({ frames := 1, cells := 0, slots := 0, locals := 21 } : Room) s m args below meth c H locs 0 0 (MQ below (r_Q D b none hh) args s 0 0 (fun q => b ≤ q)) (F0 m 39 ls []) := by
  obtain ⟨⟨hx, hb, hml, hown, hts⟩, -⟩ := id X
  unfold f_X0_becomeAs_39 at hf
  refine r_aload_n hx hb dX0_becomeAs_39 rfl (lv_at hl 0 rfl) ?_
  refine r_aload_n hx hb dX0_becomeAs_40 rfl (lv_at hl 1 rfl) ?_
  refine r_gI X B hf fX0_2 (fun _ _ => rfl) m_70 dX0_becomeAs_41 (fun v1 hf => ?_)
  refine r_pI X B hf fX0_2 (Or.inl rfl) m_70 dX0_becomeAs_44 (fun h2 H locs B hf => ?_)
  refine r_aload_n hx hb dX0_becomeAs_47 rfl (lv_at hl 0 rfl) ?_
  refine r_aload_n hx hb dX0_becomeAs_48 rfl (lv_at hl 1 rfl) ?_
  refine r_gI X B hf fX0_3 (fun _ _ => rfl) m_71 dX0_becomeAs_49 (fun v3 hf => ?_)
  refine r_pI X B hf fX0_3 (Or.inl rfl) m_71 dX0_becomeAs_52 (fun h4 H locs B hf => ?_)
  refine r_aload_n hx hb dX0_becomeAs_55 rfl (lv_at hl 0 rfl) ?_
  refine r_aload_n hx hb dX0_becomeAs_56 rfl (lv_at hl 1 rfl) ?_
  refine r_gI X B hf fX0_4 (fun _ _ => rfl) m_72 dX0_becomeAs_57 (fun v5 hf => ?_)
  refine r_pZ X B hf fX0_4 (Or.inl rfl) m_72 dX0_becomeAs_60 (fun h6 H locs B hf => ?_)
  refine r_aload_n hx hb dX0_becomeAs_63 rfl (lv_at hl 0 rfl) ?_
  refine r_aload_n hx hb dX0_becomeAs_64 rfl (lv_at hl 1 rfl) ?_
  refine r_gI X B hf fX0_5 (fun _ _ => rfl) m_73 dX0_becomeAs_65 (fun v7 hf => ?_)
  refine r_pI X B hf fX0_5 (Or.inl rfl) m_73 dX0_becomeAs_68 (fun h8 H locs B hf => ?_)
  exact r_vret X B hr hk hf dX0_becomeAs_71
set_option maxRecDepth 100000 in
set_option maxHeartbeats 4000000 in
theorem t_X0_becomeAs_6 {p : Program} {l : Launch} {e : Env} {s : State} {m : MethodId} {args : Array Value} {below : List Frame} {meth : Method} {c : Code} {D : RG} {b : Nat} {vv : Unit} {hh : AH} (X : r_C p c cX0_becomeAs 3 s m args RX0 D b) (hr : meth.sig.returnType = none) (hk : meth.locks = false) (hn : meth.name = "becomeAs") : ∀ (n : Nat) (h : AH) (H : Heap) (locs : List Loc) (ls : Array Slot) (l0 : Nat) (l1 : Option Nat) (l2 : Int32), r_B D b s h H locs → lv_has ls 3 [(0, va_rf (some l0)), (1, va_rf l1), (2, .int l2)] → f_X0_becomeAs_6 n h l0 l1 l2 = some (vv, hh) → W p l e ({ frames := 1, cells := 0, slots := 0, locals := 21 } : Room) s m args below meth c H locs 0 0 (MQ below (r_Q D b none hh) args s 0 0 (fun q => b ≤ q)) (F0 m 6 ls []) := by
  obtain ⟨⟨hx, hb, hml, hown, hts⟩, -⟩ := id X
  intro n
  induction n with
  | zero =>
    intro h H locs ls l0 l1 l2 B hl hf
    cases hf
  | succ n ih =>
    intro h H locs ls l0 l1 l2 B hl hf
    unfold f_X0_becomeAs_6 at hf
    refine lv_iload_n hx hb dX0_becomeAs_6 rfl (lv_at hl 2 rfl) ?_
    refine r_aload_n hx hb dX0_becomeAs_7 rfl (lv_at hl 1 rfl) ?_
    refine r_gI X B hf fX0_1 (fun _ _ => rfl) m_69 dX0_becomeAs_8 (fun v9 hf => ?_)
    refine lv_icmp_ge (tgt := 39) hx hb dX0_becomeAs_11 (by decide) (fun q_ => ?_) (fun q_ => ?_)
    · have hf := (r_ite hf).1 q_
      exact t_X0_becomeAs_39 X hr hk hn  B (lv_sub hl [0, 1] rfl) hf
    · have hf := (r_ite hf).2 q_
      refine lv_iload_n hx hb dX0_becomeAs_14 rfl (lv_at hl 2 rfl) ?_
      refine r_aload_n hx hb dX0_becomeAs_15 rfl (lv_at hl 1 rfl) ?_
      refine r_gR X B hf fX0_0 (fun _ _ => rfl) m_68 dX0_becomeAs_16 (fun v10 hf => ?_)
      refine r_aL X B hf (by decide) dX0_becomeAs_19 (fun v11 hf => ?_)
      refine lv_icmp_ge (tgt := 39) hx hb dX0_becomeAs_20 (by decide) (fun q_ => ?_) (fun q_ => ?_)
      · have hf := (r_ite hf).1 q_
        exact t_X0_becomeAs_39 X hr hk hn  B (lv_sub hl [0, 1] rfl) hf
      · have hf := (r_ite hf).2 q_
        refine r_aload_n hx hb dX0_becomeAs_23 rfl (lv_at hl 0 rfl) ?_
        refine r_aload_n hx hb dX0_becomeAs_24 rfl (lv_at hl 1 rfl) ?_
        refine r_gR X B hf fX0_0 (fun _ _ => rfl) m_68 dX0_becomeAs_25 (fun v12 hf => ?_)
        refine lv_iload_n hx hb dX0_becomeAs_28 rfl (lv_at hl 2 rfl) ?_
        refine r_aIi X B hf dX0_becomeAs_29 (fun v13 hf => ?_)
        refine rcv_inv hf ?_
        intro a17 e18 s19 hf
        refine cal_inv hf ?_
        intro v14 h15 e16 hf
        refine r_call B (va_runV (As := [.int v13]) (rest := []) X.1 (c_X0_addFirst (l := l) (D := D) (b := b) e16) (r_cwV X rfl m_400 m_388 m_389 m_24 m_390 rfl rfl hd_X0_addFirst ⟨Nat.le_of_ble_eq_true rfl, Nat.le_of_ble_eq_true rfl⟩) (r_preV X B s19 rfl [.int v13]) rfl rfl hl.1 (by rw [e18]; rfl) (lv_room (by simp [va_cat, cat_i, cat_r, cat_l])) dX0_becomeAs_30 ⟨Nat.zero_le _, Nat.zero_le _⟩) ?_
        intro H locs B
        refine W.cs (cells' := 0) (slots' := 0) rfl rfl (W.eq (g2 := F0 m 33 ls []) rfl ?_)
        refine r_iinc (lv' := fun v20 => [(2, .int v20), (0, va_rf (some l0)), (1, va_rf l1)]) hx hb hf dX0_becomeAs_33 hl (k := 2) rfl (by decide) (by decide) (fun v => by first | rfl | simp [va_cat, cat_i, cat_r, cat_l]) (fun v20 ls hl hf => ?_)
        refine lv_goto (tgt := 6) hx hb dX0_becomeAs_36 (by decide) ?_
        exact ih _ _ _ _ _ _ _ B (lv_sub hl [1, 2, 0] rfl) hf
set_option maxRecDepth 100000 in
set_option maxHeartbeats 4000000 in
theorem c_X0_becomeAs {l : Launch} {D : RG} {b : Nat} {h : AH} {l0 : Nat} {l1 : Option Nat} {vv : Unit} {hh : AH} (hf : f_X0_becomeAs h l0 l1 = some (vv, hh)) : Met l yX0_becomeAs (Cond.code yX0_becomeAs cX0_becomeAs 3 none :: wsL_law) ({ frames := 1, cells := 0, slots := 0, locals := 21 } : Room) (va_Pc [.ref l0, va_rf l1] (r_I D b h)) (r_Q D b none hh) 0 0 (fun q => b ≤ q) := by
  refine r_ofW (own := RX0) rfl (by decide +kernel) (by simp [lg_sl, va_cat, cat_i, cat_r, cat_l]) ?_
  intro p e s m args below meth c ls X B hr hk hn hl
  have hl : lv_has ls 3 [(0, va_rf (some l0)), (1, va_rf l1)] := by simpa [lv_args, va_cat, cat_i, cat_r, cat_l] using hl
  obtain ⟨⟨hx, hb, hml, hown, hts⟩, -⟩ := id X
  generalize s.heap = H at B ⊢
  generalize ([] : List Loc) = locs at B ⊢
  unfold f_X0_becomeAs at hf
  refine r_aload_n hx hb dX0_becomeAs_0 rfl (lv_at hl 0 rfl) ?_
  refine rcv_inv hf ?_
  intro a24 e25 s26 hf
  refine cal_inv hf ?_
  intro v21 h22 e23 hf
  refine r_call B (va_runV (As := []) (rest := []) X.1 (c_X0_clear (l := l) (D := D) (b := b) e23) (r_cwV X rfl m_399 m_303 m_304 m_24 m_305 rfl rfl hd_X0_clear ⟨Nat.le_of_ble_eq_true rfl, Nat.le_of_ble_eq_true rfl⟩) (r_preV X B s26 rfl []) rfl rfl hl.1 (by rw [e25]; rfl) (lv_room (by simp [va_cat, cat_i, cat_r, cat_l])) dX0_becomeAs_1 ⟨Nat.zero_le _, Nat.zero_le _⟩) ?_
  intro H locs B
  refine W.cs (cells' := 0) (slots' := 0) rfl rfl (W.eq (g2 := F0 m 4 ls []) rfl ?_)
  refine lv_iconst (v := 0) hx hb dX0_becomeAs_4 (by decide) ?_
  refine lv_istore_n (lv' := [(2, .int 0), (0, va_rf (some l0)), (1, va_rf l1)]) hx hb dX0_becomeAs_5 rfl hl (by decide) (by first | rfl | simp [va_cat, cat_i, cat_r, cat_l]) (fun ls hl => ?_)
  exact t_X0_becomeAs_6 X hr hk hn  _ _ _ _ _ _ _ _ B (lv_sub hl [1, 2, 0] rfl) hf
def f_X0_rank_40 (h : AH) (s0 : Int32) : Option (Int32 × AH) := some (s0, h)
def f_X0_rank (h : AH) (l0 : Option Nat) (l1 : Int32) : Option (Int32 × AH) := if l1 = 0 then gI h l0 1 5 (fun v1 => if v1 = 0 then f_X0_rank_40 h 1 else f_X0_rank_40 h 0) else if l1 = 1 then gI h l0 1 3 (fun v2 => some (v2, h)) else gI h l0 1 2 (fun v3 => some (v3, h))
set_option maxRecDepth 100000 in
set_option maxHeartbeats 4000000 in
theorem t_X0_rank_40 {p : Program} {l : Launch} {e : Env} {s : State} {m : MethodId} {args : Array Value} {below : List Frame} {meth : Method} {c : Code} {D : RG} {b : Nat} {vv : Int32} {hh : AH} (X : r_C p c cX0_rank 2 s m args RX0 D b) (hr : meth.sig.returnType = (some .int)) (hk : meth.locks = false) (hn : meth.name = "rank") {h : AH} {H : Heap} {locs : List Loc} {ls : Array Slot} {s0 : Int32} (B : r_B D b s h H locs) (hl : lv_has ls 2 []) (hf : f_X0_rank_40 h s0 = some (vv, hh)) : W p l e ({ frames := 0, cells := 0, slots := 0, locals := 0 } : Room) s m args below meth c H locs 0 0 (MQ below (r_Q D b (some (.int vv)) hh) args s 0 0 (fun q => b ≤ q)) (F0 m 40 ls [.int s0]) := by
  obtain ⟨⟨hx, hb, hml, hown, hts⟩, -⟩ := id X
  unfold f_X0_rank_40 at hf
  exact r_iret X B hr hk hf dX0_rank_40
set_option maxRecDepth 100000 in
set_option maxHeartbeats 4000000 in
theorem c_X0_rank {l : Launch} {D : RG} {b : Nat} {h : AH} {l0 : Option Nat} {l1 : Int32} {vv : Int32} {hh : AH} (hf : f_X0_rank h l0 l1 = some (vv, hh)) : Met l yX0_rank (Cond.code yX0_rank cX0_rank 2 (some .int) :: wsL_law) ({ frames := 0, cells := 0, slots := 0, locals := 0 } : Room) (va_Pc [va_rf l0, .int l1] (r_I D b h)) (r_Q D b (some (.int vv)) hh) 0 0 (fun q => b ≤ q) := by
  refine r_ofW (own := RX0) rfl (by decide +kernel) (by simp [lg_sl, va_cat, cat_i, cat_r, cat_l]) ?_
  intro p e s m args below meth c ls X B hr hk hn hl
  have hl : lv_has ls 2 [(0, va_rf l0), (1, .int l1)] := by simpa [lv_args, va_cat, cat_i, cat_r, cat_l] using hl
  obtain ⟨⟨hx, hb, hml, hown, hts⟩, -⟩ := id X
  generalize s.heap = H at B ⊢
  generalize ([] : List Loc) = locs at B ⊢
  unfold f_X0_rank at hf
  refine lv_iload_n hx hb dX0_rank_0 rfl (lv_at hl 1 rfl) ?_
  by_cases q_0 : l1 = 0
  · have hf := (r_ite hf).1 q_0
    refine lv_lookup (off := 27) (tgt := 28) hx hb dX0_rank_1 (by decide) (by rw [q_0]; decide) (by decide) ?_
    refine r_aload_n hx hb dX0_rank_28 rfl (lv_at hl 0 rfl) ?_
    refine r_gI X B hf fX1_5 (fun _ _ => rfl) m_236 dX0_rank_29 (fun v1 hf => ?_)
    refine lv_if_eq (tgt := 39) hx hb dX0_rank_32 (by decide) (fun q_ => ?_) (fun q_ => ?_)
    · have hf := (r_ite hf).1 q_
      refine lv_iconst (v := 1) hx hb dX0_rank_39 (by decide) ?_
      exact t_X0_rank_40 X hr hk hn  B (lv_sub hl [] rfl) hf
    · have hf := (r_ite hf).2 q_
      refine lv_iconst (v := 0) hx hb dX0_rank_35 (by decide) ?_
      refine lv_goto (tgt := 40) hx hb dX0_rank_36 (by decide) ?_
      exact t_X0_rank_40 X hr hk hn  B (lv_sub hl [] rfl) hf
  · have hf := (r_ite hf).2 q_0
    by_cases q_1 : l1 = 1
    · have hf := (r_ite hf).1 q_1
      refine lv_lookup (off := 40) (tgt := 41) hx hb dX0_rank_1 (by decide) (by rw [q_1]; decide) (by decide) ?_
      refine r_aload_n hx hb dX0_rank_41 rfl (lv_at hl 0 rfl) ?_
      refine r_gI X B hf fX1_3 (fun _ _ => rfl) m_237 dX0_rank_42 (fun v2 hf => ?_)
      exact r_iret X B hr hk hf dX0_rank_45
    · have hf := (r_ite hf).2 q_1
      refine lv_lookup (off := 45) (tgt := 46) hx hb dX0_rank_1 (by decide) (by simp only [Array.toList]; rw [lv_osw q_0 (by decide)]; rw [lv_osw q_1 (by decide)]; rfl) (by decide) ?_
      refine r_aload_n hx hb dX0_rank_46 rfl (lv_at hl 0 rfl) ?_
      refine r_gI X B hf fX1_2 (fun _ _ => rfl) m_238 dX0_rank_47 (fun v3 hf => ?_)
      exact r_iret X B hr hk hf dX0_rank_50
def f_X0_isAhead_80 (h : AH) (s0 : Int32) : Option (Int32 × AH) := rZ s0 h
def f_X0_isAhead_64 (h : AH) (l1 : Option Nat) (l2 : Option Nat) : Option (Int32 × AH) := gI h l1 1 0 (fun v1 => gI h l2 1 0 (fun v2 => if v2 ≤ v1 then f_X0_isAhead_80 h 0 else f_X0_isAhead_80 h 1))
def f_X0_isAhead_57 (h : AH) (s0 : Int32) : Option (Int32 × AH) := rZ s0 h
def f_X0_isAhead_2 : Nat → AH → Nat → Option Nat → Option Nat → Int32 → Option (Int32 × AH)
  | 0, _, _, _, _, _ => none
  | n + 1, h, l0, l1, l2, l3 => gI h (some l0) 0 1 (fun v3 => if v3 ≤ l3 then f_X0_isAhead_64 h l1 l2 else gR h (some l0) 0 0 (fun v4 => aL (.int) h v4 (fun v5 => if v5 ≤ l3 then f_X0_isAhead_64 h l1 l2 else gR h (some l0) 0 0 (fun v6 => aI .int h v6 l3 (fun v7 => cal (f_X0_rank h l1 v7) (fun v8 h9 => gR h9 (some l0) 0 0 (fun v11 => aI .int h9 v11 l3 (fun v12 => cal (f_X0_rank h9 l2 v12) (fun v13 h14 => bd (v8 - v13) (fun v16 => if v16 = 0 then bd (l3 + 1) (fun v17 => f_X0_isAhead_2 n h14 l0 l1 l2 v17) else if 0 ≤ v16 then f_X0_isAhead_57 h14 0 else f_X0_isAhead_57 h14 1))))))))))
def f_X0_isAhead (h : AH) (l0 : Nat) (l1 : Option Nat) (l2 : Option Nat) : Option (Int32 × AH) := f_X0_isAhead_2 FU h l0 l1 l2 0
set_option maxRecDepth 100000 in
set_option maxHeartbeats 4000000 in
theorem t_X0_isAhead_80 {p : Program} {l : Launch} {e : Env} {s : State} {m : MethodId} {args : Array Value} {below : List Frame} {meth : Method} {c : Code} {D : RG} {b : Nat} {vv : Int32} {hh : AH} (X : r_C p c cX0_isAhead 5 s m args RX0 D b) (hr : meth.sig.returnType = (some .boolean)) (hk : meth.locks = false) (hn : meth.name = "isAhead") {h : AH} {H : Heap} {locs : List Loc} {ls : Array Slot} {s0 : Int32} (B : r_B D b s h H locs) (hl : lv_has ls 5 []) (hf : f_X0_isAhead_80 h s0 = some (vv, hh)) : W p l e ({ frames := 1, cells := 0, slots := 0, locals := 21 } : Room) s m args below meth c H locs 0 0 (MQ below (r_Q D b (some (.int vv)) hh) args s 0 0 (fun q => b ≤ q)) (F0 m 80 ls [.int s0]) := by
  obtain ⟨⟨hx, hb, hml, hown, hts⟩, -⟩ := id X
  unfold f_X0_isAhead_80 at hf
  exact r_zret X B hr hk hf dX0_isAhead_80
set_option maxRecDepth 100000 in
set_option maxHeartbeats 4000000 in
theorem t_X0_isAhead_64 {p : Program} {l : Launch} {e : Env} {s : State} {m : MethodId} {args : Array Value} {below : List Frame} {meth : Method} {c : Code} {D : RG} {b : Nat} {vv : Int32} {hh : AH} (X : r_C p c cX0_isAhead 5 s m args RX0 D b) (hr : meth.sig.returnType = (some .boolean)) (hk : meth.locks = false) (hn : meth.name = "isAhead") {h : AH} {H : Heap} {locs : List Loc} {ls : Array Slot} {l1 : Option Nat} {l2 : Option Nat} (B : r_B D b s h H locs) (hl : lv_has ls 5 [(1, va_rf l1), (2, va_rf l2)]) (hf : f_X0_isAhead_64 h l1 l2 = some (vv, hh)) : W p l e ({ frames := 1, cells := 0, slots := 0, locals := 21 } : Room) s m args below meth c H locs 0 0 (MQ below (r_Q D b (some (.int vv)) hh) args s 0 0 (fun q => b ≤ q)) (F0 m 64 ls []) := by
  obtain ⟨⟨hx, hb, hml, hown, hts⟩, -⟩ := id X
  unfold f_X0_isAhead_64 at hf
  refine r_aload_n hx hb dX0_isAhead_64 rfl (lv_at hl 0 rfl) ?_
  refine r_gI X B hf fX1_0 (fun _ _ => rfl) m_232 dX0_isAhead_65 (fun v1 hf => ?_)
  refine r_aload_n hx hb dX0_isAhead_68 rfl (lv_at hl 1 rfl) ?_
  refine r_gI X B hf fX1_0 (fun _ _ => rfl) m_232 dX0_isAhead_69 (fun v2 hf => ?_)
  refine lv_icmp_ge (tgt := 79) hx hb dX0_isAhead_72 (by decide) (fun q_ => ?_) (fun q_ => ?_)
  · have hf := (r_ite hf).1 q_
    refine lv_iconst (v := 0) hx hb dX0_isAhead_79 (by decide) ?_
    exact t_X0_isAhead_80 X hr hk hn  B (lv_sub hl [] rfl) hf
  · have hf := (r_ite hf).2 q_
    refine lv_iconst (v := 1) hx hb dX0_isAhead_75 (by decide) ?_
    refine lv_goto (tgt := 80) hx hb dX0_isAhead_76 (by decide) ?_
    exact t_X0_isAhead_80 X hr hk hn  B (lv_sub hl [] rfl) hf
set_option maxRecDepth 100000 in
set_option maxHeartbeats 4000000 in
theorem t_X0_isAhead_57 {p : Program} {l : Launch} {e : Env} {s : State} {m : MethodId} {args : Array Value} {below : List Frame} {meth : Method} {c : Code} {D : RG} {b : Nat} {vv : Int32} {hh : AH} (X : r_C p c cX0_isAhead 5 s m args RX0 D b) (hr : meth.sig.returnType = (some .boolean)) (hk : meth.locks = false) (hn : meth.name = "isAhead") {h : AH} {H : Heap} {locs : List Loc} {ls : Array Slot} {s0 : Int32} (B : r_B D b s h H locs) (hl : lv_has ls 5 []) (hf : f_X0_isAhead_57 h s0 = some (vv, hh)) : W p l e ({ frames := 1, cells := 0, slots := 0, locals := 21 } : Room) s m args below meth c H locs 0 0 (MQ below (r_Q D b (some (.int vv)) hh) args s 0 0 (fun q => b ≤ q)) (F0 m 57 ls [.int s0]) := by
  obtain ⟨⟨hx, hb, hml, hown, hts⟩, -⟩ := id X
  unfold f_X0_isAhead_57 at hf
  exact r_zret X B hr hk hf dX0_isAhead_57
set_option maxRecDepth 100000 in
set_option maxHeartbeats 4000000 in
theorem t_X0_isAhead_2 {p : Program} {l : Launch} {e : Env} {s : State} {m : MethodId} {args : Array Value} {below : List Frame} {meth : Method} {c : Code} {D : RG} {b : Nat} {vv : Int32} {hh : AH} (X : r_C p c cX0_isAhead 5 s m args RX0 D b) (hr : meth.sig.returnType = (some .boolean)) (hk : meth.locks = false) (hn : meth.name = "isAhead") : ∀ (n : Nat) (h : AH) (H : Heap) (locs : List Loc) (ls : Array Slot) (l0 : Nat) (l1 : Option Nat) (l2 : Option Nat) (l3 : Int32), r_B D b s h H locs → lv_has ls 5 [(0, va_rf (some l0)), (1, va_rf l1), (2, va_rf l2), (3, .int l3)] → f_X0_isAhead_2 n h l0 l1 l2 l3 = some (vv, hh) → W p l e ({ frames := 1, cells := 0, slots := 0, locals := 21 } : Room) s m args below meth c H locs 0 0 (MQ below (r_Q D b (some (.int vv)) hh) args s 0 0 (fun q => b ≤ q)) (F0 m 2 ls []) := by
  obtain ⟨⟨hx, hb, hml, hown, hts⟩, -⟩ := id X
  intro n
  induction n with
  | zero =>
    intro h H locs ls l0 l1 l2 l3 B hl hf
    cases hf
  | succ n ih =>
    intro h H locs ls l0 l1 l2 l3 B hl hf
    unfold f_X0_isAhead_2 at hf
    refine lv_iload_n hx hb dX0_isAhead_2 rfl (lv_at hl 3 rfl) ?_
    refine r_aload_n hx hb dX0_isAhead_3 rfl (lv_at hl 0 rfl) ?_
    refine r_gI X B hf fX0_1 (fun _ _ => rfl) m_69 dX0_isAhead_4 (fun v3 hf => ?_)
    refine lv_icmp_ge (tgt := 64) hx hb dX0_isAhead_7 (by decide) (fun q_ => ?_) (fun q_ => ?_)
    · have hf := (r_ite hf).1 q_
      exact t_X0_isAhead_64 X hr hk hn  B (lv_sub hl [1, 2] rfl) hf
    · have hf := (r_ite hf).2 q_
      refine lv_iload_n hx hb dX0_isAhead_10 rfl (lv_at hl 3 rfl) ?_
      refine r_aload_n hx hb dX0_isAhead_11 rfl (lv_at hl 0 rfl) ?_
      refine r_gR X B hf fX0_0 (fun _ _ => rfl) m_68 dX0_isAhead_12 (fun v4 hf => ?_)
      refine r_aL X B hf (by decide) dX0_isAhead_15 (fun v5 hf => ?_)
      refine lv_icmp_ge (tgt := 64) hx hb dX0_isAhead_16 (by decide) (fun q_ => ?_) (fun q_ => ?_)
      · have hf := (r_ite hf).1 q_
        exact t_X0_isAhead_64 X hr hk hn  B (lv_sub hl [1, 2] rfl) hf
      · have hf := (r_ite hf).2 q_
        refine r_aload_n hx hb dX0_isAhead_19 rfl (lv_at hl 1 rfl) ?_
        refine r_aload_n hx hb dX0_isAhead_20 rfl (lv_at hl 0 rfl) ?_
        refine r_gR X B hf fX0_0 (fun _ _ => rfl) m_68 dX0_isAhead_21 (fun v6 hf => ?_)
        refine lv_iload_n hx hb dX0_isAhead_24 rfl (lv_at hl 3 rfl) ?_
        refine r_aIi X B hf dX0_isAhead_25 (fun v7 hf => ?_)
        refine cal_inv hf ?_
        intro v8 h9 e10 hf
        refine r_call B (va_runS (As := [va_rf l1, .int v7]) (rest := []) X.1 (c_X0_rank (l := l) (D := D) (b := b) e10) (r_cwS X m_233 m_234 m_24 m_235 rfl rfl hd_X0_rank ⟨Nat.le_of_ble_eq_true rfl, Nat.le_of_ble_eq_true rfl⟩) (r_preS X B [va_rf l1, .int v7]) rfl rfl hl.1 rfl (lv_room (by simp [va_cat, cat_i, cat_r, cat_l])) dX0_isAhead_26 ⟨Nat.zero_le _, Nat.zero_le _⟩) ?_
        intro H locs B
        refine W.cs (cells' := 0) (slots' := 0) rfl rfl (W.eq (g2 := F0 m 29 ls [.int v8]) rfl ?_)
        refine r_aload_n hx hb dX0_isAhead_29 rfl (lv_at hl 2 rfl) ?_
        refine r_aload_n hx hb dX0_isAhead_30 rfl (lv_at hl 0 rfl) ?_
        refine r_gR X B hf fX0_0 (fun _ _ => rfl) m_68 dX0_isAhead_31 (fun v11 hf => ?_)
        refine lv_iload_n hx hb dX0_isAhead_34 rfl (lv_at hl 3 rfl) ?_
        refine r_aIi X B hf dX0_isAhead_35 (fun v12 hf => ?_)
        refine cal_inv hf ?_
        intro v13 h14 e15 hf
        refine r_call B (va_runS (As := [va_rf l2, .int v12]) (rest := [.int v8]) X.1 (c_X0_rank (l := l) (D := D) (b := b) e15) (r_cwS X m_233 m_234 m_24 m_235 rfl rfl hd_X0_rank ⟨Nat.le_of_ble_eq_true rfl, Nat.le_of_ble_eq_true rfl⟩) (r_preS X B [va_rf l2, .int v12]) rfl rfl hl.1 rfl (lv_room (by simp [va_cat, cat_i, cat_r, cat_l])) dX0_isAhead_36 ⟨Nat.zero_le _, Nat.zero_le _⟩) ?_
        intro H locs B
        refine W.cs (cells' := 0) (slots' := 0) rfl rfl (W.eq (g2 := F0 m 39 ls [.int v13, .int v8]) rfl ?_)
        refine lv_isub hx hb dX0_isAhead_39 ?_
        refine r_bd hf (fun v16 hf => ?_)
        refine lv_istore (lv' := [(4, .int v16), (0, va_rf (some l0)), (1, va_rf l1), (2, va_rf l2), (3, .int l3)]) hx hb dX0_isAhead_40 hl (by decide) (by first | rfl | simp [va_cat, cat_i, cat_r, cat_l]) (fun ls hl => ?_)
        refine lv_iload hx hb dX0_isAhead_42 (lv_at hl 0 rfl) ?_
        refine lv_if_eq (tgt := 58) hx hb dX0_isAhead_44 (by decide) (fun q_ => ?_) (fun q_ => ?_)
        · have hf := (r_ite hf).1 q_
          refine r_iinc (lv' := fun v17 => [(3, .int v17), (4, .int v16), (0, va_rf (some l0)), (1, va_rf l1), (2, va_rf l2)]) hx hb hf dX0_isAhead_58 hl (k := 4) rfl (by decide) (by decide) (fun v => by first | rfl | simp [va_cat, cat_i, cat_r, cat_l]) (fun v17 ls hl hf => ?_)
          refine lv_goto (tgt := 2) hx hb dX0_isAhead_61 (by decide) ?_
          exact ih _ _ _ _ _ _ _ _ B (lv_sub hl [2, 3, 4, 0] rfl) hf
        · have hf := (r_ite hf).2 q_
          refine lv_iload hx hb dX0_isAhead_47 (lv_at hl 0 rfl) ?_
          refine lv_if_ge (tgt := 56) hx hb dX0_isAhead_49 (by decide) (fun q_ => ?_) (fun q_ => ?_)
          · have hf := (r_ite hf).1 q_
            refine lv_iconst (v := 0) hx hb dX0_isAhead_56 (by decide) ?_
            exact t_X0_isAhead_57 X hr hk hn  B (lv_sub hl [] rfl) hf
          · have hf := (r_ite hf).2 q_
            refine lv_iconst (v := 1) hx hb dX0_isAhead_52 (by decide) ?_
            refine lv_goto (tgt := 57) hx hb dX0_isAhead_53 (by decide) ?_
            exact t_X0_isAhead_57 X hr hk hn  B (lv_sub hl [] rfl) hf
set_option maxRecDepth 100000 in
set_option maxHeartbeats 4000000 in
theorem c_X0_isAhead {l : Launch} {D : RG} {b : Nat} {h : AH} {l0 : Nat} {l1 : Option Nat} {l2 : Option Nat} {vv : Int32} {hh : AH} (hf : f_X0_isAhead h l0 l1 l2 = some (vv, hh)) : Met l yX0_isAhead (Cond.code yX0_isAhead cX0_isAhead 5 (some .boolean) :: wsL_law) ({ frames := 1, cells := 0, slots := 0, locals := 21 } : Room) (va_Pc [.ref l0, va_rf l1, va_rf l2] (r_I D b h)) (r_Q D b (some (.int vv)) hh) 0 0 (fun q => b ≤ q) := by
  refine r_ofW (own := RX0) rfl (by decide +kernel) (by simp [lg_sl, va_cat, cat_i, cat_r, cat_l]) ?_
  intro p e s m args below meth c ls X B hr hk hn hl
  have hl : lv_has ls 5 [(0, va_rf (some l0)), (1, va_rf l1), (2, va_rf l2)] := by simpa [lv_args, va_cat, cat_i, cat_r, cat_l] using hl
  obtain ⟨⟨hx, hb, hml, hown, hts⟩, -⟩ := id X
  generalize s.heap = H at B ⊢
  generalize ([] : List Loc) = locs at B ⊢
  unfold f_X0_isAhead at hf
  refine lv_iconst (v := 0) hx hb dX0_isAhead_0 (by decide) ?_
  refine lv_istore_n (lv' := [(3, .int 0), (0, va_rf (some l0)), (1, va_rf l1), (2, va_rf l2)]) hx hb dX0_isAhead_1 rfl hl (by decide) (by first | rfl | simp [va_cat, cat_i, cat_r, cat_l]) (fun ls hl => ?_)
  exact t_X0_isAhead_2 X hr hk hn  _ _ _ _ _ _ _ _ _ B (lv_sub hl [1, 2, 3, 0] rfl) hf
def f_X1_init (h : AH) (l0 : Nat) (l1 : Int32) (l2 : Int32) (l3 : Int32) (l4 : Int32) (l5 : Int32) (l6 : Int32) : Option (Unit × AH) := pR h (some l0) 1 6 none (fun h1 => pI h1 (some l0) 1 7 0 (fun h2 => pI h2 (some l0) 1 8 0 (fun h3 => pI h3 (some l0) 1 9 0 (fun h4 => pI h4 (some l0) 1 10 0 (fun h5 => pI h5 (some l0) 1 11 0 (fun h6 => pI h6 (some l0) 1 0 l1 (fun h7 => pI h7 (some l0) 1 1 l2 (fun h8 => pI h8 (some l0) 1 2 l3 (fun h9 => pI h9 (some l0) 1 3 l4 (fun h10 => pI h10 (some l0) 1 4 l5 (fun h11 => pZ h11 (some l0) 1 5 l6 (fun h12 => some ((), h12)))))))))))))
set_option maxRecDepth 100000 in
set_option maxHeartbeats 4000000 in
theorem c_X1_init {l : Launch} {D : RG} {b : Nat} {h : AH} {l0 : Nat} {l1 : Int32} {l2 : Int32} {l3 : Int32} {l4 : Int32} {l5 : Int32} {l6 : Int32} {vv : Unit} {hh : AH} (hf : f_X1_init h l0 l1 l2 l3 l4 l5 l6 = some (vv, hh)) : Met l yX1_init (Cond.code yX1_init cX1_init 7 none :: wsL_law) ({ frames := 1, cells := 0, slots := 0, locals := 12 } : Room) (va_Pc [.ref l0, .int l1, .int l2, .int l3, .int l4, .int l5, .int l6] (r_I D b h)) (r_Q D b none hh) 0 0 (fun q => b ≤ q) := by
  refine r_ofW (own := RX1) rfl (by decide +kernel) (by simp [lg_sl, va_cat, cat_i, cat_r, cat_l]) ?_
  intro p e s m args below meth c ls X B hr hk hn hl
  have hl : lv_has ls 7 [(0, va_rf (some l0)), (1, .int l1), (2, .int l2), (3, .int l3), (4, .int l4), (5, .int l5), (6, .int l6)] := by simpa [lv_args, va_cat, cat_i, cat_r, cat_l] using hl
  obtain ⟨⟨hx, hb, hml, hown, hts⟩, -⟩ := id X
  generalize s.heap = H at B ⊢
  generalize ([] : List Loc) = locs at B ⊢
  unfold f_X1_init at hf
  refine r_aload_n hx hb dX1_init_0 rfl (lv_at hl 0 rfl) ?_
  refine W.objInit hx hb hown (hts _ m_210) (hts _ m_14) (hts _ m_15) rfl (by rw [hml]; exact hl.1) rfl dX1_init_1 (Nat.le_of_ble_eq_true rfl) (Nat.le_of_ble_eq_true rfl) ?_
  refine W.eq (g2 := F0 m 4 ls []) rfl ?_
  refine r_aload_n hx hb dX1_init_4 rfl (lv_at hl 0 rfl) ?_
  refine r_null hx hb dX1_init_5 ?_
  refine r_pR X B hf fX1_6 rfl (Or.inl rfl) m_211 dX1_init_6 (fun h1 H locs B hf => ?_)
  refine r_aload_n hx hb dX1_init_9 rfl (lv_at hl 0 rfl) ?_
  refine lv_iconst (v := 0) hx hb dX1_init_10 (by decide) ?_
  refine r_pI X B hf fX1_7 (Or.inl rfl) m_212 dX1_init_11 (fun h2 H locs B hf => ?_)
  refine r_aload_n hx hb dX1_init_14 rfl (lv_at hl 0 rfl) ?_
  refine lv_iconst (v := 0) hx hb dX1_init_15 (by decide) ?_
  refine r_pI X B hf fX1_8 (Or.inl rfl) m_213 dX1_init_16 (fun h3 H locs B hf => ?_)
  refine r_aload_n hx hb dX1_init_19 rfl (lv_at hl 0 rfl) ?_
  refine lv_iconst (v := 0) hx hb dX1_init_20 (by decide) ?_
  refine r_pI X B hf fX1_9 (Or.inl rfl) m_214 dX1_init_21 (fun h4 H locs B hf => ?_)
  refine r_aload_n hx hb dX1_init_24 rfl (lv_at hl 0 rfl) ?_
  refine lv_iconst (v := 0) hx hb dX1_init_25 (by decide) ?_
  refine r_pI X B hf fX1_10 (Or.inl rfl) m_215 dX1_init_26 (fun h5 H locs B hf => ?_)
  refine r_aload_n hx hb dX1_init_29 rfl (lv_at hl 0 rfl) ?_
  refine lv_iconst (v := 0) hx hb dX1_init_30 (by decide) ?_
  refine r_pI X B hf fX1_11 (Or.inl rfl) m_216 dX1_init_31 (fun h6 H locs B hf => ?_)
  refine r_aload_n hx hb dX1_init_34 rfl (lv_at hl 0 rfl) ?_
  refine lv_iload_n hx hb dX1_init_35 rfl (lv_at hl 1 rfl) ?_
  refine r_pI X B hf fX1_0 (Or.inr ⟨rfl, hn, rfl⟩) m_217 dX1_init_36 (fun h7 H locs B hf => ?_)
  refine r_aload_n hx hb dX1_init_39 rfl (lv_at hl 0 rfl) ?_
  refine lv_iload_n hx hb dX1_init_40 rfl (lv_at hl 2 rfl) ?_
  refine r_pI X B hf fX1_1 (Or.inr ⟨rfl, hn, rfl⟩) m_218 dX1_init_41 (fun h8 H locs B hf => ?_)
  refine r_aload_n hx hb dX1_init_44 rfl (lv_at hl 0 rfl) ?_
  refine lv_iload_n hx hb dX1_init_45 rfl (lv_at hl 3 rfl) ?_
  refine r_pI X B hf fX1_2 (Or.inr ⟨rfl, hn, rfl⟩) m_219 dX1_init_46 (fun h9 H locs B hf => ?_)
  refine r_aload_n hx hb dX1_init_49 rfl (lv_at hl 0 rfl) ?_
  refine lv_iload hx hb dX1_init_50 (lv_at hl 4 rfl) ?_
  refine r_pI X B hf fX1_3 (Or.inr ⟨rfl, hn, rfl⟩) m_220 dX1_init_52 (fun h10 H locs B hf => ?_)
  refine r_aload_n hx hb dX1_init_55 rfl (lv_at hl 0 rfl) ?_
  refine lv_iload hx hb dX1_init_56 (lv_at hl 5 rfl) ?_
  refine r_pI X B hf fX1_4 (Or.inr ⟨rfl, hn, rfl⟩) m_221 dX1_init_58 (fun h11 H locs B hf => ?_)
  refine r_aload_n hx hb dX1_init_61 rfl (lv_at hl 0 rfl) ?_
  refine lv_iload hx hb dX1_init_62 (lv_at hl 6 rfl) ?_
  refine r_pZ X B hf fX1_5 (Or.inr ⟨rfl, hn, rfl⟩) m_222 dX1_init_64 (fun h12 H locs B hf => ?_)
  exact r_vret X B hr hk hf dX1_init_67
def f_X1_isFed_16 (h : AH) (s0 : Int32) : Option (Int32 × AH) := rZ s0 h
def f_X1_isFed (h : AH) (l0 : Nat) : Option (Int32 × AH) := gI h (some l0) 1 7 (fun v1 => gI h (some l0) 1 3 (fun v2 => if ¬ v1 = v2 then f_X1_isFed_16 h 0 else f_X1_isFed_16 h 1))
set_option maxRecDepth 100000 in
set_option maxHeartbeats 4000000 in
theorem t_X1_isFed_16 {p : Program} {l : Launch} {e : Env} {s : State} {m : MethodId} {args : Array Value} {below : List Frame} {meth : Method} {c : Code} {D : RG} {b : Nat} {vv : Int32} {hh : AH} (X : r_C p c cX1_isFed 1 s m args RX1 D b) (hr : meth.sig.returnType = (some .boolean)) (hk : meth.locks = false) (hn : meth.name = "isFed") {h : AH} {H : Heap} {locs : List Loc} {ls : Array Slot} {s0 : Int32} (B : r_B D b s h H locs) (hl : lv_has ls 1 []) (hf : f_X1_isFed_16 h s0 = some (vv, hh)) : W p l e ({ frames := 0, cells := 0, slots := 0, locals := 0 } : Room) s m args below meth c H locs 0 0 (MQ below (r_Q D b (some (.int vv)) hh) args s 0 0 (fun q => b ≤ q)) (F0 m 16 ls [.int s0]) := by
  obtain ⟨⟨hx, hb, hml, hown, hts⟩, -⟩ := id X
  unfold f_X1_isFed_16 at hf
  exact r_zret X B hr hk hf dX1_isFed_16
set_option maxRecDepth 100000 in
set_option maxHeartbeats 4000000 in
theorem c_X1_isFed {l : Launch} {D : RG} {b : Nat} {h : AH} {l0 : Nat} {vv : Int32} {hh : AH} (hf : f_X1_isFed h l0 = some (vv, hh)) : Met l yX1_isFed (Cond.code yX1_isFed cX1_isFed 1 (some .boolean) :: wsL_law) ({ frames := 0, cells := 0, slots := 0, locals := 0 } : Room) (va_Pc [.ref l0] (r_I D b h)) (r_Q D b (some (.int vv)) hh) 0 0 (fun q => b ≤ q) := by
  refine r_ofW (own := RX1) rfl (by decide +kernel) (by simp [lg_sl, va_cat, cat_i, cat_r, cat_l]) ?_
  intro p e s m args below meth c ls X B hr hk hn hl
  have hl : lv_has ls 1 [(0, va_rf (some l0))] := by simpa [lv_args, va_cat, cat_i, cat_r, cat_l] using hl
  obtain ⟨⟨hx, hb, hml, hown, hts⟩, -⟩ := id X
  generalize s.heap = H at B ⊢
  generalize ([] : List Loc) = locs at B ⊢
  unfold f_X1_isFed at hf
  refine r_aload_n hx hb dX1_isFed_0 rfl (lv_at hl 0 rfl) ?_
  refine r_gI X B hf fX1_7 (fun _ _ => rfl) m_212 dX1_isFed_1 (fun v1 hf => ?_)
  refine r_aload_n hx hb dX1_isFed_4 rfl (lv_at hl 0 rfl) ?_
  refine r_gI X B hf fX1_3 (fun _ _ => rfl) m_220 dX1_isFed_5 (fun v2 hf => ?_)
  refine lv_icmp_ne (tgt := 15) hx hb dX1_isFed_8 (by decide) (fun q_ => ?_) (fun q_ => ?_)
  · have hf := (r_ite hf).1 q_
    refine lv_iconst (v := 0) hx hb dX1_isFed_15 (by decide) ?_
    exact t_X1_isFed_16 X hr hk hn  B (lv_sub hl [] rfl) hf
  · have hf := (r_ite hf).2 q_
    refine lv_iconst (v := 1) hx hb dX1_isFed_11 (by decide) ?_
    refine lv_goto (tgt := 16) hx hb dX1_isFed_12 (by decide) ?_
    exact t_X1_isFed_16 X hr hk hn  B (lv_sub hl [] rfl) hf
def f_X1_keepShare_38 (h : AH)  : Option (Unit × AH) := some ((), h)
def f_X1_keepShare (h : AH) (l0 : Nat) : Option (Unit × AH) := gI h (some l0) 1 7 (fun v1 => pI h (some l0) 1 11 v1 (fun h2 => gI h2 (some l0) 1 10 (fun v3 => gI h2 (some l0) 1 7 (fun v4 => pI h2 (some l0) 1 10 (v3 + v4) (fun h5 => rcv h5 (some l0) 1 (fun a9 => cal (f_X1_isFed h5 a9) (fun v6 h7 => if v6 = 0 then f_X1_keepShare_38 h7 else gI h7 (some l0) 1 9 (fun v12 => pI h7 (some l0) 1 9 (v12 + 1) (fun h13 => f_X1_keepShare_38 h13)))))))))
set_option maxRecDepth 100000 in
set_option maxHeartbeats 4000000 in
theorem t_X1_keepShare_38 {p : Program} {l : Launch} {e : Env} {s : State} {m : MethodId} {args : Array Value} {below : List Frame} {meth : Method} {c : Code} {D : RG} {b : Nat} {vv : Unit} {hh : AH} (X : r_C p c cX1_keepShare 1 s m args RX1 D b) (hr : meth.sig.returnType = none) (hk : meth.locks = false) (hn : meth.name = "keepShare") {h : AH} {H : Heap} {locs : List Loc} {ls : Array Slot}  (B : r_B D b s h H locs) (hl : lv_has ls 1 []) (hf : f_X1_keepShare_38 h  = some (vv, hh)) : W p l e ({ frames := 1, cells := 0, slots := 0, locals := 20 } : Room) s m args below meth c H locs 0 0 (MQ below (r_Q D b none hh) args s 0 0 (fun q => b ≤ q)) (F0 m 38 ls []) := by
  obtain ⟨⟨hx, hb, hml, hown, hts⟩, -⟩ := id X
  unfold f_X1_keepShare_38 at hf
  exact r_vret X B hr hk hf dX1_keepShare_38
set_option maxRecDepth 100000 in
set_option maxHeartbeats 4000000 in
theorem c_X1_keepShare {l : Launch} {D : RG} {b : Nat} {h : AH} {l0 : Nat} {vv : Unit} {hh : AH} (hf : f_X1_keepShare h l0 = some (vv, hh)) : Met l yX1_keepShare (Cond.code yX1_keepShare cX1_keepShare 1 none :: wsL_law) ({ frames := 1, cells := 0, slots := 0, locals := 20 } : Room) (va_Pc [.ref l0] (r_I D b h)) (r_Q D b none hh) 0 0 (fun q => b ≤ q) := by
  refine r_ofW (own := RX1) rfl (by decide +kernel) (by simp [lg_sl, va_cat, cat_i, cat_r, cat_l]) ?_
  intro p e s m args below meth c ls X B hr hk hn hl
  have hl : lv_has ls 1 [(0, va_rf (some l0))] := by simpa [lv_args, va_cat, cat_i, cat_r, cat_l] using hl
  obtain ⟨⟨hx, hb, hml, hown, hts⟩, -⟩ := id X
  generalize s.heap = H at B ⊢
  generalize ([] : List Loc) = locs at B ⊢
  unfold f_X1_keepShare at hf
  refine r_aload_n hx hb dX1_keepShare_0 rfl (lv_at hl 0 rfl) ?_
  refine r_aload_n hx hb dX1_keepShare_1 rfl (lv_at hl 0 rfl) ?_
  refine r_gI X B hf fX1_7 (fun _ _ => rfl) m_212 dX1_keepShare_2 (fun v1 hf => ?_)
  refine r_pI X B hf fX1_11 (Or.inl rfl) m_216 dX1_keepShare_5 (fun h2 H locs B hf => ?_)
  refine r_aload_n hx hb dX1_keepShare_8 rfl (lv_at hl 0 rfl) ?_
  refine lv_dup hx hb dX1_keepShare_9 (va_cat _) ?_
  refine r_gI X B hf fX1_10 (fun _ _ => rfl) m_215 dX1_keepShare_10 (fun v3 hf => ?_)
  refine r_aload_n hx hb dX1_keepShare_13 rfl (lv_at hl 0 rfl) ?_
  refine r_gI X B hf fX1_7 (fun _ _ => rfl) m_212 dX1_keepShare_14 (fun v4 hf => ?_)
  refine lv_iadd hx hb dX1_keepShare_17 ?_
  refine r_pI X B hf fX1_10 (Or.inl rfl) m_215 dX1_keepShare_18 (fun h5 H locs B hf => ?_)
  refine r_aload_n hx hb dX1_keepShare_21 rfl (lv_at hl 0 rfl) ?_
  refine rcv_inv hf ?_
  intro a9 e10 s11 hf
  refine cal_inv hf ?_
  intro v6 h7 e8 hf
  refine r_call B (va_runV (As := []) (rest := []) X.1 (c_X1_isFed (l := l) (D := D) (b := b) e8) (r_cwV X rfl m_552 m_532 m_533 m_206 m_534 rfl rfl hd_X1_isFed ⟨Nat.le_of_ble_eq_true rfl, Nat.le_of_ble_eq_true rfl⟩) (r_preV X B s11 rfl []) rfl rfl hl.1 (by rw [e10]; rfl) (lv_room (by simp [va_cat, cat_i, cat_r, cat_l])) dX1_keepShare_22 ⟨Nat.zero_le _, Nat.zero_le _⟩) ?_
  intro H locs B
  refine W.cs (cells' := 0) (slots' := 0) rfl rfl (W.eq (g2 := F0 m 25 ls [.int v6]) rfl ?_)
  refine lv_if_eq (tgt := 38) hx hb dX1_keepShare_25 (by decide) (fun q_ => ?_) (fun q_ => ?_)
  · have hf := (r_ite hf).1 q_
    exact t_X1_keepShare_38 X hr hk hn  B (lv_sub hl [] rfl) hf
  · have hf := (r_ite hf).2 q_
    refine r_aload_n hx hb dX1_keepShare_28 rfl (lv_at hl 0 rfl) ?_
    refine lv_dup hx hb dX1_keepShare_29 (va_cat _) ?_
    refine r_gI X B hf fX1_9 (fun _ _ => rfl) m_214 dX1_keepShare_30 (fun v12 hf => ?_)
    refine lv_iconst (v := 1) hx hb dX1_keepShare_33 (by decide) ?_
    refine lv_iadd hx hb dX1_keepShare_34 ?_
    refine r_pI X B hf fX1_9 (Or.inl rfl) m_214 dX1_keepShare_35 (fun h13 H locs B hf => ?_)
    exact t_X1_keepShare_38 X hr hk hn  B (lv_sub hl [] rfl) hf
def f_X4_init (h : AH) (l0 : Nat) : Option (Unit × AH) := pI h (some l0) 4 0 0 (fun h1 => pI h1 (some l0) 4 1 0 (fun h2 => pI h2 (some l0) 4 2 0 (fun h3 => pI h3 (some l0) 4 3 0 (fun h4 => some ((), h4)))))
set_option maxRecDepth 100000 in
set_option maxHeartbeats 4000000 in
theorem c_X4_init {l : Launch} {D : RG} {b : Nat} {h : AH} {l0 : Nat} {vv : Unit} {hh : AH} (hf : f_X4_init h l0 = some (vv, hh)) : Met l yX4_init (Cond.code yX4_init cX4_init 1 none :: wsL_law) ({ frames := 1, cells := 0, slots := 0, locals := 12 } : Room) (va_Pc [.ref l0] (r_I D b h)) (r_Q D b none hh) 0 0 (fun q => b ≤ q) := by
  refine r_ofW (own := RX4) rfl (by decide +kernel) (by simp [lg_sl, va_cat, cat_i, cat_r, cat_l]) ?_
  intro p e s m args below meth c ls X B hr hk hn hl
  have hl : lv_has ls 1 [(0, va_rf (some l0))] := by simpa [lv_args, va_cat, cat_i, cat_r, cat_l] using hl
  obtain ⟨⟨hx, hb, hml, hown, hts⟩, -⟩ := id X
  generalize s.heap = H at B ⊢
  generalize ([] : List Loc) = locs at B ⊢
  unfold f_X4_init at hf
  refine r_aload_n hx hb dX4_init_0 rfl (lv_at hl 0 rfl) ?_
  refine W.objInit hx hb hown (hts _ m_76) (hts _ m_14) (hts _ m_15) rfl (by rw [hml]; exact hl.1) rfl dX4_init_1 (Nat.le_of_ble_eq_true rfl) (Nat.le_of_ble_eq_true rfl) ?_
  refine W.eq (g2 := F0 m 4 ls []) rfl ?_
  refine r_aload_n hx hb dX4_init_4 rfl (lv_at hl 0 rfl) ?_
  refine lv_iconst (v := 0) hx hb dX4_init_5 (by decide) ?_
  refine r_pI X B hf fX4_0 (Or.inl rfl) m_77 dX4_init_6 (fun h1 H locs B hf => ?_)
  refine r_aload_n hx hb dX4_init_9 rfl (lv_at hl 0 rfl) ?_
  refine lv_iconst (v := 0) hx hb dX4_init_10 (by decide) ?_
  refine r_pI X B hf fX4_1 (Or.inl rfl) m_78 dX4_init_11 (fun h2 H locs B hf => ?_)
  refine r_aload_n hx hb dX4_init_14 rfl (lv_at hl 0 rfl) ?_
  refine lv_iconst (v := 0) hx hb dX4_init_15 (by decide) ?_
  refine r_pI X B hf fX4_2 (Or.inl rfl) m_79 dX4_init_16 (fun h3 H locs B hf => ?_)
  refine r_aload_n hx hb dX4_init_19 rfl (lv_at hl 0 rfl) ?_
  refine lv_iconst (v := 0) hx hb dX4_init_20 (by decide) ?_
  refine r_pI X B hf fX4_3 (Or.inl rfl) m_80 dX4_init_21 (fun h4 H locs B hf => ?_)
  exact r_vret X B hr hk hf dX4_init_24
def f_X2_init (h : AH) (l0 : Nat) (l1 : Option Nat) (l2 : Option Nat) : Option (Unit × AH) := nO h 4 (fun a1 h2 => rcv h2 (some a1) 4 (fun a6 => cal (f_X4_init h2 a6) (fun v3 h4 => pR h4 (some l0) 2 2 (some a1) (fun h9 => pI h9 (some l0) 2 3 0 (fun h10 => pR h10 (some l0) 2 0 l1 (fun h11 => pR h11 (some l0) 2 1 l2 (fun h12 => some ((), h12))))))))
set_option maxRecDepth 100000 in
set_option maxHeartbeats 4000000 in
theorem c_X2_init {l : Launch} {D : RG} {b : Nat} {h : AH} {l0 : Nat} {l1 : Option Nat} {l2 : Option Nat} {vv : Unit} {hh : AH} (hf : f_X2_init h l0 l1 l2 = some (vv, hh)) : Met l yX2_init (Cond.code yX2_init cX2_init 3 none :: wsL_law) ({ frames := 2, cells := 1, slots := 4, locals := 32 } : Room) (va_Pc [.ref l0, va_rf l1, va_rf l2] (r_I D b h)) (r_Q D b none hh) 1 4 (fun q => b ≤ q) := by
  refine r_ofW (own := RX2) rfl (by decide +kernel) (by simp [lg_sl, va_cat, cat_i, cat_r, cat_l]) ?_
  intro p e s m args below meth c ls X B hr hk hn hl
  have hl : lv_has ls 3 [(0, va_rf (some l0)), (1, va_rf l1), (2, va_rf l2)] := by simpa [lv_args, va_cat, cat_i, cat_r, cat_l] using hl
  obtain ⟨⟨hx, hb, hml, hown, hts⟩, -⟩ := id X
  generalize s.heap = H at B ⊢
  generalize ([] : List Loc) = locs at B ⊢
  unfold f_X2_init at hf
  refine r_aload_n hx hb dX2_init_0 rfl (lv_at hl 0 rfl) ?_
  refine W.objInit hx hb hown (hts _ m_109) (hts _ m_14) (hts _ m_15) rfl (by rw [hml]; exact hl.1) rfl dX2_init_1 (Nat.le_of_ble_eq_true rfl) (Nat.le_of_ble_eq_true rfl) ?_
  refine W.eq (g2 := F0 m 4 ls []) rfl ?_
  refine r_aload_n hx hb dX2_init_4 rfl (lv_at hl 0 rfl) ?_
  refine r_new X B hf rfl inlX4 tyX4_ok m_110 m_28 m_29 (by decide) (by decide) dX2_init_5 (by decide) (fun a1 h2 H B hf => ?_)
  refine W.cs (cells' := 1) (slots' := 4) rfl rfl ?_
  refine lv_dup hx hb dX2_init_8 (va_cat _) ?_
  refine rcv_inv hf ?_
  intro a6 e7 s8 hf
  refine cal_inv hf ?_
  intro v3 h4 e5 hf
  refine r_call B (va_runIN (b := a6) (As := []) (rest := [va_rf (some a1), va_rf (some l0)]) X.1 (c_X4_init (l := l) (D := D) (b := b) e5) (r_cwN (host := RX7) X rfl (by simp [r_nw]) m_74 m_29 m_75 rfl rfl hd_X4_init ⟨Nat.le_of_ble_eq_true rfl, Nat.le_of_ble_eq_true rfl⟩) (r_preS X B (.ref a6 :: [])) rfl rfl hl.1 (by rw [e7]; rfl) (lv_room (by simp [va_cat, cat_i, cat_r, cat_l])) dX2_init_9 ⟨(by decide), (by decide)⟩) ?_
  intro H locs B
  refine W.cs (cells' := 1) (slots' := 4) rfl rfl (W.eq (g2 := F0 m 12 ls [va_rf (some a1), va_rf (some l0)]) rfl ?_)
  refine r_pR X B hf fX2_2 rfl (Or.inr ⟨rfl, hn, rfl⟩) m_111 dX2_init_12 (fun h9 H locs B hf => ?_)
  refine r_aload_n hx hb dX2_init_15 rfl (lv_at hl 0 rfl) ?_
  refine lv_iconst (v := 0) hx hb dX2_init_16 (by decide) ?_
  refine r_pI X B hf fX2_3 (Or.inl rfl) m_112 dX2_init_17 (fun h10 H locs B hf => ?_)
  refine r_aload_n hx hb dX2_init_20 rfl (lv_at hl 0 rfl) ?_
  refine r_aload_n hx hb dX2_init_21 rfl (lv_at hl 1 rfl) ?_
  refine r_pR X B hf fX2_0 rfl (Or.inr ⟨rfl, hn, rfl⟩) m_113 dX2_init_22 (fun h11 H locs B hf => ?_)
  refine r_aload_n hx hb dX2_init_25 rfl (lv_at hl 0 rfl) ?_
  refine r_aload_n hx hb dX2_init_26 rfl (lv_at hl 2 rfl) ?_
  refine r_pR X B hf fX2_1 rfl (Or.inr ⟨rfl, hn, rfl⟩) m_114 dX2_init_27 (fun h12 H locs B hf => ?_)
  exact r_vret X B hr hk hf dX2_init_30
def f_X3_becomeAs (h : AH) (l0 : Nat) (l1 : Option Nat) : Option (Unit × AH) := gI h l1 3 0 (fun v1 => pI h (some l0) 3 0 v1 (fun h2 => gI h2 l1 3 1 (fun v3 => pI h2 (some l0) 3 1 v3 (fun h4 => gI h4 l1 3 2 (fun v5 => pZ h4 (some l0) 3 2 v5 (fun h6 => gI h6 l1 3 3 (fun v7 => pI h6 (some l0) 3 3 v7 (fun h8 => gI h8 l1 3 4 (fun v9 => pI h8 (some l0) 3 4 v9 (fun h10 => some ((), h10)))))))))))
set_option maxRecDepth 100000 in
set_option maxHeartbeats 4000000 in
theorem c_X3_becomeAs {l : Launch} {D : RG} {b : Nat} {h : AH} {l0 : Nat} {l1 : Option Nat} {vv : Unit} {hh : AH} (hf : f_X3_becomeAs h l0 l1 = some (vv, hh)) : Met l yX3_becomeAs (Cond.code yX3_becomeAs cX3_becomeAs 2 none :: wsL_law) ({ frames := 0, cells := 0, slots := 0, locals := 0 } : Room) (va_Pc [.ref l0, va_rf l1] (r_I D b h)) (r_Q D b none hh) 0 0 (fun q => b ≤ q) := by
  refine r_ofW (own := RX3) rfl (by decide +kernel) (by simp [lg_sl, va_cat, cat_i, cat_r, cat_l]) ?_
  intro p e s m args below meth c ls X B hr hk hn hl
  have hl : lv_has ls 2 [(0, va_rf (some l0)), (1, va_rf l1)] := by simpa [lv_args, va_cat, cat_i, cat_r, cat_l] using hl
  obtain ⟨⟨hx, hb, hml, hown, hts⟩, -⟩ := id X
  generalize s.heap = H at B ⊢
  generalize ([] : List Loc) = locs at B ⊢
  unfold f_X3_becomeAs at hf
  refine r_aload_n hx hb dX3_becomeAs_0 rfl (lv_at hl 0 rfl) ?_
  refine r_aload_n hx hb dX3_becomeAs_1 rfl (lv_at hl 1 rfl) ?_
  refine r_gI X B hf fX3_0 (fun _ _ => rfl) m_101 dX3_becomeAs_2 (fun v1 hf => ?_)
  refine r_pI X B hf fX3_0 (Or.inl rfl) m_101 dX3_becomeAs_5 (fun h2 H locs B hf => ?_)
  refine r_aload_n hx hb dX3_becomeAs_8 rfl (lv_at hl 0 rfl) ?_
  refine r_aload_n hx hb dX3_becomeAs_9 rfl (lv_at hl 1 rfl) ?_
  refine r_gI X B hf fX3_1 (fun _ _ => rfl) m_102 dX3_becomeAs_10 (fun v3 hf => ?_)
  refine r_pI X B hf fX3_1 (Or.inl rfl) m_102 dX3_becomeAs_13 (fun h4 H locs B hf => ?_)
  refine r_aload_n hx hb dX3_becomeAs_16 rfl (lv_at hl 0 rfl) ?_
  refine r_aload_n hx hb dX3_becomeAs_17 rfl (lv_at hl 1 rfl) ?_
  refine r_gI X B hf fX3_2 (fun _ _ => rfl) m_103 dX3_becomeAs_18 (fun v5 hf => ?_)
  refine r_pZ X B hf fX3_2 (Or.inl rfl) m_103 dX3_becomeAs_21 (fun h6 H locs B hf => ?_)
  refine r_aload_n hx hb dX3_becomeAs_24 rfl (lv_at hl 0 rfl) ?_
  refine r_aload_n hx hb dX3_becomeAs_25 rfl (lv_at hl 1 rfl) ?_
  refine r_gI X B hf fX3_3 (fun _ _ => rfl) m_104 dX3_becomeAs_26 (fun v7 hf => ?_)
  refine r_pI X B hf fX3_3 (Or.inl rfl) m_104 dX3_becomeAs_29 (fun h8 H locs B hf => ?_)
  refine r_aload_n hx hb dX3_becomeAs_32 rfl (lv_at hl 0 rfl) ?_
  refine r_aload_n hx hb dX3_becomeAs_33 rfl (lv_at hl 1 rfl) ?_
  refine r_gI X B hf fX3_4 (fun _ _ => rfl) m_105 dX3_becomeAs_34 (fun v9 hf => ?_)
  refine r_pI X B hf fX3_4 (Or.inl rfl) m_105 dX3_becomeAs_37 (fun h10 H locs B hf => ?_)
  exact r_vret X B hr hk hf dX3_becomeAs_40
def f_X2_startFromNow_5 : Nat → AH → Option Nat → Option (Unit × AH)
  | 0, _, _ => none
  | n + 1, h, l1 => nul l1 (some ((), h)) (gR h l1 5 3 (fun v1 => gR h l1 5 2 (fun v2 => rcv h v1 3 (fun a6 => cal (f_X3_becomeAs h a6 v2) (fun v3 h4 => gR h4 l1 5 1 (fun v9 => f_X2_startFromNow_5 n h4 v9))))))
def f_X2_startFromNow (h : AH) (l0 : Nat) : Option (Unit × AH) := gR h (some l0) 2 0 (fun v10 => f_X2_startFromNow_5 FU h v10)
set_option maxRecDepth 100000 in
set_option maxHeartbeats 4000000 in
theorem t_X2_startFromNow_5 {p : Program} {l : Launch} {e : Env} {s : State} {m : MethodId} {args : Array Value} {below : List Frame} {meth : Method} {c : Code} {D : RG} {b : Nat} {vv : Unit} {hh : AH} (X : r_C p c cX2_startFromNow 2 s m args RX2 D b) (hr : meth.sig.returnType = none) (hk : meth.locks = false) (hn : meth.name = "startFromNow") : ∀ (n : Nat) (h : AH) (H : Heap) (locs : List Loc) (ls : Array Slot) (l1 : Option Nat), r_B D b s h H locs → lv_has ls 2 [(1, va_rf l1)] → f_X2_startFromNow_5 n h l1 = some (vv, hh) → W p l e ({ frames := 1, cells := 0, slots := 0, locals := 21 } : Room) s m args below meth c H locs 0 0 (MQ below (r_Q D b none hh) args s 0 0 (fun q => b ≤ q)) (F0 m 5 ls []) := by
  obtain ⟨⟨hx, hb, hml, hown, hts⟩, -⟩ := id X
  intro n
  induction n with
  | zero =>
    intro h H locs ls l1 B hl hf
    cases hf
  | succ n ih =>
    intro h H locs ls l1 B hl hf
    unfold f_X2_startFromNow_5 at hf
    refine r_aload_n hx hb dX2_startFromNow_5 rfl (lv_at hl 0 rfl) ?_
    refine r_ifnull (tgt := 28) hx hb hf dX2_startFromNow_6 (by decide) (fun hf e_ => ?_) (fun hf e_ => ?_)
    · exact r_vret X B hr hk hf dX2_startFromNow_28
    · refine r_aload_n hx hb dX2_startFromNow_9 rfl (lv_at hl 0 rfl) ?_
      refine r_gR X B hf fX5_3 (fun _ _ => rfl) m_469 dX2_startFromNow_10 (fun v1 hf => ?_)
      refine r_aload_n hx hb dX2_startFromNow_13 rfl (lv_at hl 0 rfl) ?_
      refine r_gR X B hf fX5_2 (fun _ _ => rfl) m_470 dX2_startFromNow_14 (fun v2 hf => ?_)
      refine rcv_inv hf ?_
      intro a6 e7 s8 hf
      refine cal_inv hf ?_
      intro v3 h4 e5 hf
      refine r_call B (va_runV (As := [va_rf v2]) (rest := []) X.1 (c_X3_becomeAs (l := l) (D := D) (b := b) e5) (r_cwV X rfl m_472 m_473 m_474 m_87 m_475 rfl rfl hd_X3_becomeAs ⟨Nat.le_of_ble_eq_true rfl, Nat.le_of_ble_eq_true rfl⟩) (r_preV X B s8 rfl [va_rf v2]) rfl rfl hl.1 (by rw [e7]; rfl) (lv_room (by simp [va_cat, cat_i, cat_r, cat_l])) dX2_startFromNow_17 ⟨Nat.zero_le _, Nat.zero_le _⟩) ?_
      intro H locs B
      refine W.cs (cells' := 0) (slots' := 0) rfl rfl (W.eq (g2 := F0 m 20 ls []) rfl ?_)
      refine r_aload_n hx hb dX2_startFromNow_20 rfl (lv_at hl 0 rfl) ?_
      refine r_gR X B hf fX5_1 (fun _ _ => rfl) m_471 dX2_startFromNow_21 (fun v9 hf => ?_)
      refine r_astore_n (lv' := [(1, va_rf v9)]) hx hb dX2_startFromNow_24 rfl hl (by decide) (by first | rfl | simp [va_cat, cat_i, cat_r, cat_l]) (fun ls hl => ?_)
      refine lv_goto (tgt := 5) hx hb dX2_startFromNow_25 (by decide) ?_
      exact ih _ _ _ _ _ B (lv_sub hl [0] rfl) hf
set_option maxRecDepth 100000 in
set_option maxHeartbeats 4000000 in
theorem c_X2_startFromNow {l : Launch} {D : RG} {b : Nat} {h : AH} {l0 : Nat} {vv : Unit} {hh : AH} (hf : f_X2_startFromNow h l0 = some (vv, hh)) : Met l yX2_startFromNow (Cond.code yX2_startFromNow cX2_startFromNow 2 none :: wsL_law) ({ frames := 1, cells := 0, slots := 0, locals := 21 } : Room) (va_Pc [.ref l0] (r_I D b h)) (r_Q D b none hh) 0 0 (fun q => b ≤ q) := by
  refine r_ofW (own := RX2) rfl (by decide +kernel) (by simp [lg_sl, va_cat, cat_i, cat_r, cat_l]) ?_
  intro p e s m args below meth c ls X B hr hk hn hl
  have hl : lv_has ls 2 [(0, va_rf (some l0))] := by simpa [lv_args, va_cat, cat_i, cat_r, cat_l] using hl
  obtain ⟨⟨hx, hb, hml, hown, hts⟩, -⟩ := id X
  generalize s.heap = H at B ⊢
  generalize ([] : List Loc) = locs at B ⊢
  unfold f_X2_startFromNow at hf
  refine r_aload_n hx hb dX2_startFromNow_0 rfl (lv_at hl 0 rfl) ?_
  refine r_gR X B hf fX2_0 (fun _ _ => rfl) m_113 dX2_startFromNow_1 (fun v10 hf => ?_)
  refine r_astore_n (lv' := [(1, va_rf v10), (0, va_rf (some l0))]) hx hb dX2_startFromNow_4 rfl hl (by decide) (by first | rfl | simp [va_cat, cat_i, cat_r, cat_l]) (fun ls hl => ?_)
  exact t_X2_startFromNow_5 X hr hk hn  _ _ _ _ _ _ B (lv_sub hl [0] rfl) hf
def f_X4_clear (h : AH) (l0 : Nat) : Option (Unit × AH) := pI h (some l0) 4 0 0 (fun h1 => pI h1 (some l0) 4 1 0 (fun h2 => pI h2 (some l0) 4 2 0 (fun h3 => pI h3 (some l0) 4 3 0 (fun h4 => some ((), h4)))))
set_option maxRecDepth 100000 in
set_option maxHeartbeats 4000000 in
theorem c_X4_clear {l : Launch} {D : RG} {b : Nat} {h : AH} {l0 : Nat} {vv : Unit} {hh : AH} (hf : f_X4_clear h l0 = some (vv, hh)) : Met l yX4_clear (Cond.code yX4_clear cX4_clear 1 none :: wsL_law) ({ frames := 0, cells := 0, slots := 0, locals := 0 } : Room) (va_Pc [.ref l0] (r_I D b h)) (r_Q D b none hh) 0 0 (fun q => b ≤ q) := by
  refine r_ofW (own := RX4) rfl (by decide +kernel) (by simp [lg_sl, va_cat, cat_i, cat_r, cat_l]) ?_
  intro p e s m args below meth c ls X B hr hk hn hl
  have hl : lv_has ls 1 [(0, va_rf (some l0))] := by simpa [lv_args, va_cat, cat_i, cat_r, cat_l] using hl
  obtain ⟨⟨hx, hb, hml, hown, hts⟩, -⟩ := id X
  generalize s.heap = H at B ⊢
  generalize ([] : List Loc) = locs at B ⊢
  unfold f_X4_clear at hf
  refine r_aload_n hx hb dX4_clear_0 rfl (lv_at hl 0 rfl) ?_
  refine lv_iconst (v := 0) hx hb dX4_clear_1 (by decide) ?_
  refine r_pI X B hf fX4_0 (Or.inl rfl) m_77 dX4_clear_2 (fun h1 H locs B hf => ?_)
  refine r_aload_n hx hb dX4_clear_5 rfl (lv_at hl 0 rfl) ?_
  refine lv_iconst (v := 0) hx hb dX4_clear_6 (by decide) ?_
  refine r_pI X B hf fX4_1 (Or.inl rfl) m_78 dX4_clear_7 (fun h2 H locs B hf => ?_)
  refine r_aload_n hx hb dX4_clear_10 rfl (lv_at hl 0 rfl) ?_
  refine lv_iconst (v := 0) hx hb dX4_clear_11 (by decide) ?_
  refine r_pI X B hf fX4_2 (Or.inl rfl) m_79 dX4_clear_12 (fun h3 H locs B hf => ?_)
  refine r_aload_n hx hb dX4_clear_15 rfl (lv_at hl 0 rfl) ?_
  refine lv_iconst (v := 0) hx hb dX4_clear_16 (by decide) ?_
  refine r_pI X B hf fX4_3 (Or.inl rfl) m_80 dX4_clear_17 (fun h4 H locs B hf => ?_)
  exact r_vret X B hr hk hf dX4_clear_20
def f_X5_isBadYearWith_15 (h : AH) (s0 : Int32) : Option (Int32 × AH) := rZ s0 h
def f_X5_isBadYearWith (h : AH) (l0 : Nat) (l1 : Int32) : Option (Int32 × AH) := gI h (some l0) 5 5 (fun v1 => dv v1 2 (fun v2 => if v2 ≤ l1 then f_X5_isBadYearWith_15 h 0 else f_X5_isBadYearWith_15 h 1))
set_option maxRecDepth 100000 in
set_option maxHeartbeats 4000000 in
theorem t_X5_isBadYearWith_15 {p : Program} {l : Launch} {e : Env} {s : State} {m : MethodId} {args : Array Value} {below : List Frame} {meth : Method} {c : Code} {D : RG} {b : Nat} {vv : Int32} {hh : AH} (X : r_C p c cX5_isBadYearWith 2 s m args RX5 D b) (hr : meth.sig.returnType = (some .boolean)) (hk : meth.locks = false) (hn : meth.name = "isBadYearWith") {h : AH} {H : Heap} {locs : List Loc} {ls : Array Slot} {s0 : Int32} (B : r_B D b s h H locs) (hl : lv_has ls 2 []) (hf : f_X5_isBadYearWith_15 h s0 = some (vv, hh)) : W p l e ({ frames := 0, cells := 0, slots := 0, locals := 0 } : Room) s m args below meth c H locs 0 0 (MQ below (r_Q D b (some (.int vv)) hh) args s 0 0 (fun q => b ≤ q)) (F0 m 15 ls [.int s0]) := by
  obtain ⟨⟨hx, hb, hml, hown, hts⟩, -⟩ := id X
  unfold f_X5_isBadYearWith_15 at hf
  exact r_zret X B hr hk hf dX5_isBadYearWith_15
set_option maxRecDepth 100000 in
set_option maxHeartbeats 4000000 in
theorem c_X5_isBadYearWith {l : Launch} {D : RG} {b : Nat} {h : AH} {l0 : Nat} {l1 : Int32} {vv : Int32} {hh : AH} (hf : f_X5_isBadYearWith h l0 l1 = some (vv, hh)) : Met l yX5_isBadYearWith (Cond.code yX5_isBadYearWith cX5_isBadYearWith 2 (some .boolean) :: wsL_law) ({ frames := 0, cells := 0, slots := 0, locals := 0 } : Room) (va_Pc [.ref l0, .int l1] (r_I D b h)) (r_Q D b (some (.int vv)) hh) 0 0 (fun q => b ≤ q) := by
  refine r_ofW (own := RX5) rfl (by decide +kernel) (by simp [lg_sl, va_cat, cat_i, cat_r, cat_l]) ?_
  intro p e s m args below meth c ls X B hr hk hn hl
  have hl : lv_has ls 2 [(0, va_rf (some l0)), (1, .int l1)] := by simpa [lv_args, va_cat, cat_i, cat_r, cat_l] using hl
  obtain ⟨⟨hx, hb, hml, hown, hts⟩, -⟩ := id X
  generalize s.heap = H at B ⊢
  generalize ([] : List Loc) = locs at B ⊢
  unfold f_X5_isBadYearWith at hf
  refine lv_iload_n hx hb dX5_isBadYearWith_0 rfl (lv_at hl 1 rfl) ?_
  refine r_aload_n hx hb dX5_isBadYearWith_1 rfl (lv_at hl 0 rfl) ?_
  refine r_gI X B hf fX5_5 (fun _ _ => rfl) m_91 dX5_isBadYearWith_2 (fun v1 hf => ?_)
  refine lv_iconst (v := 2) hx hb dX5_isBadYearWith_5 (by decide) ?_
  refine r_div hx hb hf dX5_isBadYearWith_6 (fun v2 hf => ?_)
  refine lv_icmp_ge (tgt := 14) hx hb dX5_isBadYearWith_7 (by decide) (fun q_ => ?_) (fun q_ => ?_)
  · have hf := (r_ite hf).1 q_
    refine lv_iconst (v := 0) hx hb dX5_isBadYearWith_14 (by decide) ?_
    exact t_X5_isBadYearWith_15 X hr hk hn  B (lv_sub hl [] rfl) hf
  · have hf := (r_ite hf).2 q_
    refine lv_iconst (v := 1) hx hb dX5_isBadYearWith_10 (by decide) ?_
    refine lv_goto (tgt := 15) hx hb dX5_isBadYearWith_11 (by decide) ?_
    exact t_X5_isBadYearWith_15 X hr hk hn  B (lv_sub hl [] rfl) hf
def f_X2_areasWithin_28 (k_7 : AH → Int32 → Int32 → Option Nat → Option (Int32 × AH)) (h : AH) (l1 : Int32) (l3 : Option Nat) (s0 : Int32) (s1 : Int32) : Option (Int32 × AH) := bd (s0 + s1) (fun v1 => gR h l3 1 6 (fun v2 => k_7 h l1 v1 v2))
def f_X2_areasWithin_7 : Nat → AH → Int32 → Int32 → Option Nat → Option (Int32 × AH)
  | 0, _, _, _, _ => none
  | n + 1, h, l1, l2, l3 => nul l3 (some (l2, h)) (gI h l3 1 2 (fun v3 => if l1 < v3 then f_X2_areasWithin_28 (f_X2_areasWithin_7 n) h l1 l3 l2 0 else gI h l3 1 3 (fun v4 => f_X2_areasWithin_28 (f_X2_areasWithin_7 n) h l1 l3 l2 v4)))
def f_X2_areasWithin (h : AH) (l0 : Option Nat) (l1 : Int32) : Option (Int32 × AH) := gR h l0 5 9 (fun v5 => f_X2_areasWithin_7 FU h l1 0 v5)
set_option maxRecDepth 100000 in
set_option maxHeartbeats 4000000 in
theorem t_X2_areasWithin_28 {p : Program} {l : Launch} {e : Env} {s : State} {m : MethodId} {args : Array Value} {below : List Frame} {meth : Method} {c : Code} {D : RG} {b : Nat} {vv : Int32} {hh : AH} (X : r_C p c cX2_areasWithin 4 s m args RX2 D b) (hr : meth.sig.returnType = (some .int)) (hk : meth.locks = false) (hn : meth.name = "areasWithin") {k_7 : AH → Int32 → Int32 → Option Nat → Option (Int32 × AH)} (r_7 : ∀ (h : AH) (H : Heap) (locs : List Loc) (ls : Array Slot) (l1 : Int32) (l2 : Int32) (l3 : Option Nat), r_B D b s h H locs → lv_has ls 4 [(1, .int l1), (2, .int l2), (3, va_rf l3)] → k_7 h l1 l2 l3 = some (vv, hh) → W p l e ({ frames := 0, cells := 0, slots := 0, locals := 0 } : Room) s m args below meth c H locs 0 0 (MQ below (r_Q D b (some (.int vv)) hh) args s 0 0 (fun q => b ≤ q)) (F0 m 7 ls [])) {h : AH} {H : Heap} {locs : List Loc} {ls : Array Slot} {l1 : Int32} {l3 : Option Nat} {s0 : Int32} {s1 : Int32} (B : r_B D b s h H locs) (hl : lv_has ls 4 [(1, .int l1), (3, va_rf l3)]) (hf : f_X2_areasWithin_28 k_7 h l1 l3 s0 s1 = some (vv, hh)) : W p l e ({ frames := 0, cells := 0, slots := 0, locals := 0 } : Room) s m args below meth c H locs 0 0 (MQ below (r_Q D b (some (.int vv)) hh) args s 0 0 (fun q => b ≤ q)) (F0 m 28 ls [.int s1, .int s0]) := by
  obtain ⟨⟨hx, hb, hml, hown, hts⟩, -⟩ := id X
  unfold f_X2_areasWithin_28 at hf
  refine lv_iadd hx hb dX2_areasWithin_28 ?_
  refine r_bd hf (fun v1 hf => ?_)
  refine lv_istore_n (lv' := [(2, .int v1), (1, .int l1), (3, va_rf l3)]) hx hb dX2_areasWithin_29 rfl hl (by decide) (by first | rfl | simp [va_cat, cat_i, cat_r, cat_l]) (fun ls hl => ?_)
  refine r_aload_n hx hb dX2_areasWithin_30 rfl (lv_at hl 2 rfl) ?_
  refine r_gR X B hf fX1_6 (fun _ _ => rfl) m_512 dX2_areasWithin_31 (fun v2 hf => ?_)
  refine r_astore_n (lv' := [(3, va_rf v2), (2, .int v1), (1, .int l1)]) hx hb dX2_areasWithin_34 rfl hl (by decide) (by first | rfl | simp [va_cat, cat_i, cat_r, cat_l]) (fun ls hl => ?_)
  refine lv_goto (tgt := 7) hx hb dX2_areasWithin_35 (by decide) ?_
  exact r_7 _ _ _ _ _ _ _ B (lv_sub hl [2, 1, 0] rfl) hf
set_option maxRecDepth 100000 in
set_option maxHeartbeats 4000000 in
theorem t_X2_areasWithin_7 {p : Program} {l : Launch} {e : Env} {s : State} {m : MethodId} {args : Array Value} {below : List Frame} {meth : Method} {c : Code} {D : RG} {b : Nat} {vv : Int32} {hh : AH} (X : r_C p c cX2_areasWithin 4 s m args RX2 D b) (hr : meth.sig.returnType = (some .int)) (hk : meth.locks = false) (hn : meth.name = "areasWithin") : ∀ (n : Nat) (h : AH) (H : Heap) (locs : List Loc) (ls : Array Slot) (l1 : Int32) (l2 : Int32) (l3 : Option Nat), r_B D b s h H locs → lv_has ls 4 [(1, .int l1), (2, .int l2), (3, va_rf l3)] → f_X2_areasWithin_7 n h l1 l2 l3 = some (vv, hh) → W p l e ({ frames := 0, cells := 0, slots := 0, locals := 0 } : Room) s m args below meth c H locs 0 0 (MQ below (r_Q D b (some (.int vv)) hh) args s 0 0 (fun q => b ≤ q)) (F0 m 7 ls []) := by
  obtain ⟨⟨hx, hb, hml, hown, hts⟩, -⟩ := id X
  intro n
  induction n with
  | zero =>
    intro h H locs ls l1 l2 l3 B hl hf
    cases hf
  | succ n ih =>
    intro h H locs ls l1 l2 l3 B hl hf
    unfold f_X2_areasWithin_7 at hf
    refine r_aload_n hx hb dX2_areasWithin_7 rfl (lv_at hl 2 rfl) ?_
    refine r_ifnull (tgt := 38) hx hb hf dX2_areasWithin_8 (by decide) (fun hf e_ => ?_) (fun hf e_ => ?_)
    · refine lv_iload_n hx hb dX2_areasWithin_38 rfl (lv_at hl 1 rfl) ?_
      exact r_iret X B hr hk hf dX2_areasWithin_39
    · refine lv_iload_n hx hb dX2_areasWithin_11 rfl (lv_at hl 1 rfl) ?_
      refine r_aload_n hx hb dX2_areasWithin_12 rfl (lv_at hl 2 rfl) ?_
      refine r_gI X B hf fX1_2 (fun _ _ => rfl) m_520 dX2_areasWithin_13 (fun v3 hf => ?_)
      refine lv_iload_n hx hb dX2_areasWithin_16 rfl (lv_at hl 0 rfl) ?_
      refine lv_icmp_gt (tgt := 27) hx hb dX2_areasWithin_17 (by decide) (fun q_ => ?_) (fun q_ => ?_)
      · have hf := (r_ite hf).1 q_
        refine lv_iconst (v := 0) hx hb dX2_areasWithin_27 (by decide) ?_
        exact t_X2_areasWithin_28 X hr hk hn ih B (lv_sub hl [0, 2] rfl) hf
      · have hf := (r_ite hf).2 q_
        refine r_aload_n hx hb dX2_areasWithin_20 rfl (lv_at hl 2 rfl) ?_
        refine r_gI X B hf fX1_3 (fun _ _ => rfl) m_511 dX2_areasWithin_21 (fun v4 hf => ?_)
        refine lv_goto (tgt := 28) hx hb dX2_areasWithin_24 (by decide) ?_
        exact t_X2_areasWithin_28 X hr hk hn ih B (lv_sub hl [0, 2] rfl) hf
set_option maxRecDepth 100000 in
set_option maxHeartbeats 4000000 in
theorem c_X2_areasWithin {l : Launch} {D : RG} {b : Nat} {h : AH} {l0 : Option Nat} {l1 : Int32} {vv : Int32} {hh : AH} (hf : f_X2_areasWithin h l0 l1 = some (vv, hh)) : Met l yX2_areasWithin (Cond.code yX2_areasWithin cX2_areasWithin 4 (some .int) :: wsL_law) ({ frames := 0, cells := 0, slots := 0, locals := 0 } : Room) (va_Pc [va_rf l0, .int l1] (r_I D b h)) (r_Q D b (some (.int vv)) hh) 0 0 (fun q => b ≤ q) := by
  refine r_ofW (own := RX2) rfl (by decide +kernel) (by simp [lg_sl, va_cat, cat_i, cat_r, cat_l]) ?_
  intro p e s m args below meth c ls X B hr hk hn hl
  have hl : lv_has ls 4 [(0, va_rf l0), (1, .int l1)] := by simpa [lv_args, va_cat, cat_i, cat_r, cat_l] using hl
  obtain ⟨⟨hx, hb, hml, hown, hts⟩, -⟩ := id X
  generalize s.heap = H at B ⊢
  generalize ([] : List Loc) = locs at B ⊢
  unfold f_X2_areasWithin at hf
  refine lv_iconst (v := 0) hx hb dX2_areasWithin_0 (by decide) ?_
  refine lv_istore_n (lv' := [(2, .int 0), (0, va_rf l0), (1, .int l1)]) hx hb dX2_areasWithin_1 rfl hl (by decide) (by first | rfl | simp [va_cat, cat_i, cat_r, cat_l]) (fun ls hl => ?_)
  refine r_aload_n hx hb dX2_areasWithin_2 rfl (lv_at hl 1 rfl) ?_
  refine r_gR X B hf fX5_9 (fun _ _ => rfl) m_509 dX2_areasWithin_3 (fun v5 hf => ?_)
  refine r_astore_n (lv' := [(3, va_rf v5), (2, .int 0), (0, va_rf l0), (1, .int l1)]) hx hb dX2_areasWithin_6 rfl hl (by decide) (by first | rfl | simp [va_cat, cat_i, cat_r, cat_l]) (fun ls hl => ?_)
  exact t_X2_areasWithin_7 X hr hk hn  _ _ _ _ _ _ _ _ B (lv_sub hl [3, 1, 0] rfl) hf
def f_X2_giveOneMore_55 (h : AH)  : Option (Unit × AH) := some ((), h)
def f_X2_giveOneMore_28 (k_9 : AH → Option Nat → Int32 → Option Nat → Option (Unit × AH)) (h : AH) (l1 : Option Nat) (l2 : Int32) (l3 : Option Nat) : Option (Unit × AH) := gR h l3 1 6 (fun v1 => k_9 h l1 l2 v1)
def f_X2_giveOneMore_9 : Nat → AH → Option Nat → Int32 → Option Nat → Option (Unit × AH)
  | 0, _, _, _, _ => none
  | n + 1, h, l1, l2, l3 => nul l3 (nul l1 (f_X2_giveOneMore_55 h) (gI h l1 1 7 (fun v2 => pI h l1 1 7 (v2 + 1) (fun h3 => pI h3 l1 1 8 0 (fun h4 => f_X2_giveOneMore_55 h4))))) (gI h l3 1 8 (fun v5 => if v5 ≤ l2 then f_X2_giveOneMore_28 (f_X2_giveOneMore_9 n) h l1 l2 l3 else gI h l3 1 8 (fun v6 => f_X2_giveOneMore_28 (f_X2_giveOneMore_9 n) h l3 v6 l3)))
def f_X2_giveOneMore (h : AH) (l0 : Option Nat) : Option (Unit × AH) := gR h l0 5 9 (fun v7 => f_X2_giveOneMore_9 FU h none 0 v7)
set_option maxRecDepth 100000 in
set_option maxHeartbeats 4000000 in
theorem t_X2_giveOneMore_55 {p : Program} {l : Launch} {e : Env} {s : State} {m : MethodId} {args : Array Value} {below : List Frame} {meth : Method} {c : Code} {D : RG} {b : Nat} {vv : Unit} {hh : AH} (X : r_C p c cX2_giveOneMore 4 s m args RX2 D b) (hr : meth.sig.returnType = none) (hk : meth.locks = false) (hn : meth.name = "giveOneMore") {h : AH} {H : Heap} {locs : List Loc} {ls : Array Slot}  (B : r_B D b s h H locs) (hl : lv_has ls 4 []) (hf : f_X2_giveOneMore_55 h  = some (vv, hh)) : W p l e ({ frames := 0, cells := 0, slots := 0, locals := 0 } : Room) s m args below meth c H locs 0 0 (MQ below (r_Q D b none hh) args s 0 0 (fun q => b ≤ q)) (F0 m 55 ls []) := by
  obtain ⟨⟨hx, hb, hml, hown, hts⟩, -⟩ := id X
  unfold f_X2_giveOneMore_55 at hf
  exact r_vret X B hr hk hf dX2_giveOneMore_55
set_option maxRecDepth 100000 in
set_option maxHeartbeats 4000000 in
theorem t_X2_giveOneMore_28 {p : Program} {l : Launch} {e : Env} {s : State} {m : MethodId} {args : Array Value} {below : List Frame} {meth : Method} {c : Code} {D : RG} {b : Nat} {vv : Unit} {hh : AH} (X : r_C p c cX2_giveOneMore 4 s m args RX2 D b) (hr : meth.sig.returnType = none) (hk : meth.locks = false) (hn : meth.name = "giveOneMore") {k_9 : AH → Option Nat → Int32 → Option Nat → Option (Unit × AH)} (r_9 : ∀ (h : AH) (H : Heap) (locs : List Loc) (ls : Array Slot) (l1 : Option Nat) (l2 : Int32) (l3 : Option Nat), r_B D b s h H locs → lv_has ls 4 [(1, va_rf l1), (2, .int l2), (3, va_rf l3)] → k_9 h l1 l2 l3 = some (vv, hh) → W p l e ({ frames := 0, cells := 0, slots := 0, locals := 0 } : Room) s m args below meth c H locs 0 0 (MQ below (r_Q D b none hh) args s 0 0 (fun q => b ≤ q)) (F0 m 9 ls [])) {h : AH} {H : Heap} {locs : List Loc} {ls : Array Slot} {l1 : Option Nat} {l2 : Int32} {l3 : Option Nat} (B : r_B D b s h H locs) (hl : lv_has ls 4 [(1, va_rf l1), (2, .int l2), (3, va_rf l3)]) (hf : f_X2_giveOneMore_28 k_9 h l1 l2 l3 = some (vv, hh)) : W p l e ({ frames := 0, cells := 0, slots := 0, locals := 0 } : Room) s m args below meth c H locs 0 0 (MQ below (r_Q D b none hh) args s 0 0 (fun q => b ≤ q)) (F0 m 28 ls []) := by
  obtain ⟨⟨hx, hb, hml, hown, hts⟩, -⟩ := id X
  unfold f_X2_giveOneMore_28 at hf
  refine r_aload_n hx hb dX2_giveOneMore_28 rfl (lv_at hl 2 rfl) ?_
  refine r_gR X B hf fX1_6 (fun _ _ => rfl) m_512 dX2_giveOneMore_29 (fun v1 hf => ?_)
  refine r_astore_n (lv' := [(3, va_rf v1), (1, va_rf l1), (2, .int l2)]) hx hb dX2_giveOneMore_32 rfl hl (by decide) (by first | rfl | simp [va_cat, cat_i, cat_r, cat_l]) (fun ls hl => ?_)
  refine lv_goto (tgt := 9) hx hb dX2_giveOneMore_33 (by decide) ?_
  exact r_9 _ _ _ _ _ _ _ B (lv_sub hl [1, 2, 0] rfl) hf
set_option maxRecDepth 100000 in
set_option maxHeartbeats 4000000 in
theorem t_X2_giveOneMore_9 {p : Program} {l : Launch} {e : Env} {s : State} {m : MethodId} {args : Array Value} {below : List Frame} {meth : Method} {c : Code} {D : RG} {b : Nat} {vv : Unit} {hh : AH} (X : r_C p c cX2_giveOneMore 4 s m args RX2 D b) (hr : meth.sig.returnType = none) (hk : meth.locks = false) (hn : meth.name = "giveOneMore") : ∀ (n : Nat) (h : AH) (H : Heap) (locs : List Loc) (ls : Array Slot) (l1 : Option Nat) (l2 : Int32) (l3 : Option Nat), r_B D b s h H locs → lv_has ls 4 [(1, va_rf l1), (2, .int l2), (3, va_rf l3)] → f_X2_giveOneMore_9 n h l1 l2 l3 = some (vv, hh) → W p l e ({ frames := 0, cells := 0, slots := 0, locals := 0 } : Room) s m args below meth c H locs 0 0 (MQ below (r_Q D b none hh) args s 0 0 (fun q => b ≤ q)) (F0 m 9 ls []) := by
  obtain ⟨⟨hx, hb, hml, hown, hts⟩, -⟩ := id X
  intro n
  induction n with
  | zero =>
    intro h H locs ls l1 l2 l3 B hl hf
    cases hf
  | succ n ih =>
    intro h H locs ls l1 l2 l3 B hl hf
    unfold f_X2_giveOneMore_9 at hf
    refine r_aload_n hx hb dX2_giveOneMore_9 rfl (lv_at hl 2 rfl) ?_
    refine r_ifnull (tgt := 36) hx hb hf dX2_giveOneMore_10 (by decide) (fun hf e_ => ?_) (fun hf e_ => ?_)
    · refine r_aload_n hx hb dX2_giveOneMore_36 rfl (lv_at hl 0 rfl) ?_
      refine r_ifnull (tgt := 55) hx hb hf dX2_giveOneMore_37 (by decide) (fun hf e_ => ?_) (fun hf e_ => ?_)
      · exact t_X2_giveOneMore_55 X hr hk hn  B (lv_sub hl [] rfl) hf
      · refine r_aload_n hx hb dX2_giveOneMore_40 rfl (lv_at hl 0 rfl) ?_
        refine lv_dup hx hb dX2_giveOneMore_41 (va_cat _) ?_
        refine r_gI X B hf fX1_7 (fun _ _ => rfl) m_510 dX2_giveOneMore_42 (fun v2 hf => ?_)
        refine lv_iconst (v := 1) hx hb dX2_giveOneMore_45 (by decide) ?_
        refine lv_iadd hx hb dX2_giveOneMore_46 ?_
        refine r_pI X B hf fX1_7 (Or.inl rfl) m_510 dX2_giveOneMore_47 (fun h3 H locs B hf => ?_)
        refine r_aload_n hx hb dX2_giveOneMore_50 rfl (lv_at hl 0 rfl) ?_
        refine lv_iconst (v := 0) hx hb dX2_giveOneMore_51 (by decide) ?_
        refine r_pI X B hf fX1_8 (Or.inl rfl) m_524 dX2_giveOneMore_52 (fun h4 H locs B hf => ?_)
        exact t_X2_giveOneMore_55 X hr hk hn  B (lv_sub hl [] rfl) hf
    · refine r_aload_n hx hb dX2_giveOneMore_13 rfl (lv_at hl 2 rfl) ?_
      refine r_gI X B hf fX1_8 (fun _ _ => rfl) m_524 dX2_giveOneMore_14 (fun v5 hf => ?_)
      refine lv_iload_n hx hb dX2_giveOneMore_17 rfl (lv_at hl 1 rfl) ?_
      refine lv_icmp_le (tgt := 28) hx hb dX2_giveOneMore_18 (by decide) (fun q_ => ?_) (fun q_ => ?_)
      · have hf := (r_ite hf).1 q_
        exact t_X2_giveOneMore_28 X hr hk hn ih B (lv_sub hl [0, 1, 2] rfl) hf
      · have hf := (r_ite hf).2 q_
        refine r_aload_n hx hb dX2_giveOneMore_21 rfl (lv_at hl 2 rfl) ?_
        refine r_gI X B hf fX1_8 (fun _ _ => rfl) m_524 dX2_giveOneMore_22 (fun v6 hf => ?_)
        refine lv_istore_n (lv' := [(2, .int v6), (1, va_rf l1), (3, va_rf l3)]) hx hb dX2_giveOneMore_25 rfl hl (by decide) (by first | rfl | simp [va_cat, cat_i, cat_r, cat_l]) (fun ls hl => ?_)
        refine r_aload_n hx hb dX2_giveOneMore_26 rfl (lv_at hl 2 rfl) ?_
        refine r_astore_n (lv' := [(1, va_rf l3), (2, .int v6), (3, va_rf l3)]) hx hb dX2_giveOneMore_27 rfl hl (by decide) (by first | rfl | simp [va_cat, cat_i, cat_r, cat_l]) (fun ls hl => ?_)
        exact t_X2_giveOneMore_28 X hr hk hn ih B (lv_sub hl [0, 1, 2] rfl) hf
set_option maxRecDepth 100000 in
set_option maxHeartbeats 4000000 in
theorem c_X2_giveOneMore {l : Launch} {D : RG} {b : Nat} {h : AH} {l0 : Option Nat} {vv : Unit} {hh : AH} (hf : f_X2_giveOneMore h l0 = some (vv, hh)) : Met l yX2_giveOneMore (Cond.code yX2_giveOneMore cX2_giveOneMore 4 none :: wsL_law) ({ frames := 0, cells := 0, slots := 0, locals := 0 } : Room) (va_Pc [va_rf l0] (r_I D b h)) (r_Q D b none hh) 0 0 (fun q => b ≤ q) := by
  refine r_ofW (own := RX2) rfl (by decide +kernel) (by simp [lg_sl, va_cat, cat_i, cat_r, cat_l]) ?_
  intro p e s m args below meth c ls X B hr hk hn hl
  have hl : lv_has ls 4 [(0, va_rf l0)] := by simpa [lv_args, va_cat, cat_i, cat_r, cat_l] using hl
  obtain ⟨⟨hx, hb, hml, hown, hts⟩, -⟩ := id X
  generalize s.heap = H at B ⊢
  generalize ([] : List Loc) = locs at B ⊢
  unfold f_X2_giveOneMore at hf
  refine r_null hx hb dX2_giveOneMore_0 ?_
  refine r_astore_n (lv' := [(1, va_rf none), (0, va_rf l0)]) hx hb dX2_giveOneMore_1 rfl hl (by decide) (by first | rfl | simp [va_cat, cat_i, cat_r, cat_l]) (fun ls hl => ?_)
  refine lv_iconst (v := 0) hx hb dX2_giveOneMore_2 (by decide) ?_
  refine lv_istore_n (lv' := [(2, .int 0), (1, va_rf none), (0, va_rf l0)]) hx hb dX2_giveOneMore_3 rfl hl (by decide) (by first | rfl | simp [va_cat, cat_i, cat_r, cat_l]) (fun ls hl => ?_)
  refine r_aload_n hx hb dX2_giveOneMore_4 rfl (lv_at hl 2 rfl) ?_
  refine r_gR X B hf fX5_9 (fun _ _ => rfl) m_509 dX2_giveOneMore_5 (fun v7 hf => ?_)
  refine r_astore_n (lv' := [(3, va_rf v7), (2, .int 0), (1, va_rf none), (0, va_rf l0)]) hx hb dX2_giveOneMore_8 rfl hl (by decide) (by first | rfl | simp [va_cat, cat_i, cat_r, cat_l]) (fun ls hl => ?_)
  exact t_X2_giveOneMore_9 X hr hk hn  _ _ _ _ _ _ _ _ B (lv_sub hl [2, 1, 0] rfl) hf
def f_X2_shareFairly_88 : Nat → AH → Option Nat → Int32 → Option (Unit × AH)
  | 0, _, _, _ => none
  | n + 1, h, l0, l4 => if l4 ≤ 0 then some ((), h) else cal (f_X2_giveOneMore h l0) (fun v1 h2 => bd (l4 + (-1)) (fun v4 => f_X2_shareFairly_88 n h2 l0 v4))
def f_X2_shareFairly_50 (k_9 : AH → Option Nat → Int32 → Int32 → Int32 → Int32 → Option Nat → Option (Unit × AH)) (h : AH) (l0 : Option Nat) (l1 : Int32) (l2 : Int32) (l3 : Int32) (l4 : Int32) (l5 : Option Nat) (l6 : Int32) (s0 : Option Nat) (s1 : Int32) : Option (Unit × AH) := pI h s0 1 7 s1 (fun h5 => gI h5 l5 1 7 (fun v6 => pI h5 l5 1 8 (l6 - (v6 * l3)) (fun h7 => gI h7 l5 1 7 (fun v8 => bd (l4 - v8) (fun v9 => gR h7 l5 1 6 (fun v10 => k_9 h7 l0 l1 l2 l3 v9 v10))))))
def f_X2_shareFairly_34 (k_9 : AH → Option Nat → Int32 → Int32 → Int32 → Int32 → Option Nat → Option (Unit × AH)) (h : AH) (l0 : Option Nat) (l1 : Int32) (l2 : Int32) (l3 : Int32) (l4 : Int32) (l5 : Option Nat) (s0 : Int32) : Option (Unit × AH) := if l3 ≤ 0 then f_X2_shareFairly_50 k_9 h l0 l1 l2 l3 l4 l5 s0 l5 0 else dv s0 l3 (fun v11 => f_X2_shareFairly_50 k_9 h l0 l1 l2 l3 l4 l5 s0 l5 v11)
def f_X2_shareFairly_9 : Nat → AH → Option Nat → Int32 → Int32 → Int32 → Int32 → Option Nat → Option (Unit × AH)
  | 0, _, _, _, _, _, _, _ => none
  | n + 1, h, l0, l1, l2, l3, l4, l5 => nul l5 (f_X2_shareFairly_88 FU h l0 l4) (gI h l5 1 2 (fun v12 => if l1 < v12 then f_X2_shareFairly_34 (f_X2_shareFairly_9 n) h l0 l1 l2 l3 l4 l5 0 else gI h l5 1 3 (fun v13 => f_X2_shareFairly_34 (f_X2_shareFairly_9 n) h l0 l1 l2 l3 l4 l5 (l2 * v13))))
def f_X2_shareFairly (h : AH) (l0 : Option Nat) (l1 : Int32) (l2 : Int32) (l3 : Int32) : Option (Unit × AH) := gR h l0 5 9 (fun v14 => f_X2_shareFairly_9 FU h l0 l1 l2 l3 l2 v14)
set_option maxRecDepth 100000 in
set_option maxHeartbeats 4000000 in
theorem t_X2_shareFairly_88 {p : Program} {l : Launch} {e : Env} {s : State} {m : MethodId} {args : Array Value} {below : List Frame} {meth : Method} {c : Code} {D : RG} {b : Nat} {vv : Unit} {hh : AH} (X : r_C p c cX2_shareFairly 7 s m args RX2 D b) (hr : meth.sig.returnType = none) (hk : meth.locks = false) (hn : meth.name = "shareFairly") : ∀ (n : Nat) (h : AH) (H : Heap) (locs : List Loc) (ls : Array Slot) (l0 : Option Nat) (l4 : Int32), r_B D b s h H locs → lv_has ls 7 [(0, va_rf l0), (4, .int l4)] → f_X2_shareFairly_88 n h l0 l4 = some (vv, hh) → W p l e ({ frames := 1, cells := 0, slots := 0, locals := 23 } : Room) s m args below meth c H locs 0 0 (MQ below (r_Q D b none hh) args s 0 0 (fun q => b ≤ q)) (F0 m 88 ls []) := by
  obtain ⟨⟨hx, hb, hml, hown, hts⟩, -⟩ := id X
  intro n
  induction n with
  | zero =>
    intro h H locs ls l0 l4 B hl hf
    cases hf
  | succ n ih =>
    intro h H locs ls l0 l4 B hl hf
    unfold f_X2_shareFairly_88 at hf
    refine lv_iload hx hb dX2_shareFairly_88 (lv_at hl 1 rfl) ?_
    refine lv_if_le (tgt := 103) hx hb dX2_shareFairly_90 (by decide) (fun q_ => ?_) (fun q_ => ?_)
    · have hf := (r_ite hf).1 q_
      exact r_vret X B hr hk hf dX2_shareFairly_103
    · have hf := (r_ite hf).2 q_
      refine r_aload_n hx hb dX2_shareFairly_93 rfl (lv_at hl 0 rfl) ?_
      refine cal_inv hf ?_
      intro v1 h2 e3 hf
      refine r_call B (va_runS (As := [va_rf l0]) (rest := []) X.1 (c_X2_giveOneMore (l := l) (D := D) (b := b) e3) (r_cwS X m_525 m_526 m_52 m_527 rfl rfl hd_X2_giveOneMore ⟨Nat.le_of_ble_eq_true rfl, Nat.le_of_ble_eq_true rfl⟩) (r_preS X B [va_rf l0]) rfl rfl hl.1 rfl (lv_room (by simp [va_cat, cat_i, cat_r, cat_l])) dX2_shareFairly_94 ⟨Nat.zero_le _, Nat.zero_le _⟩) ?_
      intro H locs B
      refine W.cs (cells' := 0) (slots' := 0) rfl rfl (W.eq (g2 := F0 m 97 ls []) rfl ?_)
      refine r_iinc (lv' := fun v4 => [(4, .int v4), (0, va_rf l0)]) hx hb hf dX2_shareFairly_97 hl (k := 1) rfl (by decide) (by decide) (fun v => by first | rfl | simp [va_cat, cat_i, cat_r, cat_l]) (fun v4 ls hl hf => ?_)
      refine lv_goto (tgt := 88) hx hb dX2_shareFairly_100 (by decide) ?_
      exact ih _ _ _ _ _ _ B (lv_sub hl [1, 0] rfl) hf
set_option maxRecDepth 100000 in
set_option maxHeartbeats 4000000 in
theorem t_X2_shareFairly_50 {p : Program} {l : Launch} {e : Env} {s : State} {m : MethodId} {args : Array Value} {below : List Frame} {meth : Method} {c : Code} {D : RG} {b : Nat} {vv : Unit} {hh : AH} (X : r_C p c cX2_shareFairly 7 s m args RX2 D b) (hr : meth.sig.returnType = none) (hk : meth.locks = false) (hn : meth.name = "shareFairly") {k_9 : AH → Option Nat → Int32 → Int32 → Int32 → Int32 → Option Nat → Option (Unit × AH)} (r_9 : ∀ (h : AH) (H : Heap) (locs : List Loc) (ls : Array Slot) (l0 : Option Nat) (l1 : Int32) (l2 : Int32) (l3 : Int32) (l4 : Int32) (l5 : Option Nat), r_B D b s h H locs → lv_has ls 7 [(0, va_rf l0), (1, .int l1), (2, .int l2), (3, .int l3), (4, .int l4), (5, va_rf l5)] → k_9 h l0 l1 l2 l3 l4 l5 = some (vv, hh) → W p l e ({ frames := 1, cells := 0, slots := 0, locals := 23 } : Room) s m args below meth c H locs 0 0 (MQ below (r_Q D b none hh) args s 0 0 (fun q => b ≤ q)) (F0 m 9 ls [])) {h : AH} {H : Heap} {locs : List Loc} {ls : Array Slot} {l0 : Option Nat} {l1 : Int32} {l2 : Int32} {l3 : Int32} {l4 : Int32} {l5 : Option Nat} {l6 : Int32} {s0 : Option Nat} {s1 : Int32} (B : r_B D b s h H locs) (hl : lv_has ls 7 [(0, va_rf l0), (1, .int l1), (2, .int l2), (3, .int l3), (4, .int l4), (5, va_rf l5), (6, .int l6)]) (hf : f_X2_shareFairly_50 k_9 h l0 l1 l2 l3 l4 l5 l6 s0 s1 = some (vv, hh)) : W p l e ({ frames := 1, cells := 0, slots := 0, locals := 23 } : Room) s m args below meth c H locs 0 0 (MQ below (r_Q D b none hh) args s 0 0 (fun q => b ≤ q)) (F0 m 50 ls [.int s1, va_rf s0]) := by
  obtain ⟨⟨hx, hb, hml, hown, hts⟩, -⟩ := id X
  unfold f_X2_shareFairly_50 at hf
  refine r_pI X B hf fX1_7 (Or.inl rfl) m_510 dX2_shareFairly_50 (fun h5 H locs B hf => ?_)
  refine r_aload hx hb dX2_shareFairly_53 (lv_at hl 5 rfl) ?_
  refine lv_iload hx hb dX2_shareFairly_55 (lv_at hl 6 rfl) ?_
  refine r_aload hx hb dX2_shareFairly_57 (lv_at hl 5 rfl) ?_
  refine r_gI X B hf fX1_7 (fun _ _ => rfl) m_510 dX2_shareFairly_59 (fun v6 hf => ?_)
  refine lv_iload_n hx hb dX2_shareFairly_62 rfl (lv_at hl 3 rfl) ?_
  refine lv_imul hx hb dX2_shareFairly_63 ?_
  refine lv_isub hx hb dX2_shareFairly_64 ?_
  refine r_pI X B hf fX1_8 (Or.inl rfl) m_524 dX2_shareFairly_65 (fun h7 H locs B hf => ?_)
  refine lv_iload hx hb dX2_shareFairly_68 (lv_at hl 4 rfl) ?_
  refine r_aload hx hb dX2_shareFairly_70 (lv_at hl 5 rfl) ?_
  refine r_gI X B hf fX1_7 (fun _ _ => rfl) m_510 dX2_shareFairly_72 (fun v8 hf => ?_)
  refine lv_isub hx hb dX2_shareFairly_75 ?_
  refine r_bd hf (fun v9 hf => ?_)
  refine lv_istore (lv' := [(4, .int v9), (0, va_rf l0), (1, .int l1), (2, .int l2), (3, .int l3), (5, va_rf l5), (6, .int l6)]) hx hb dX2_shareFairly_76 hl (by decide) (by first | rfl | simp [va_cat, cat_i, cat_r, cat_l]) (fun ls hl => ?_)
  refine r_aload hx hb dX2_shareFairly_78 (lv_at hl 5 rfl) ?_
  refine r_gR X B hf fX1_6 (fun _ _ => rfl) m_512 dX2_shareFairly_80 (fun v10 hf => ?_)
  refine r_astore (lv' := [(5, va_rf v10), (4, .int v9), (0, va_rf l0), (1, .int l1), (2, .int l2), (3, .int l3), (6, .int l6)]) hx hb dX2_shareFairly_83 hl (by decide) (by first | rfl | simp [va_cat, cat_i, cat_r, cat_l]) (fun ls hl => ?_)
  refine lv_goto (tgt := 9) hx hb dX2_shareFairly_85 (by decide) ?_
  exact r_9 _ _ _ _ _ _ _ _ _ _ B (lv_sub hl [2, 3, 4, 5, 1, 0] rfl) hf
set_option maxRecDepth 100000 in
set_option maxHeartbeats 4000000 in
theorem t_X2_shareFairly_34 {p : Program} {l : Launch} {e : Env} {s : State} {m : MethodId} {args : Array Value} {below : List Frame} {meth : Method} {c : Code} {D : RG} {b : Nat} {vv : Unit} {hh : AH} (X : r_C p c cX2_shareFairly 7 s m args RX2 D b) (hr : meth.sig.returnType = none) (hk : meth.locks = false) (hn : meth.name = "shareFairly") {k_9 : AH → Option Nat → Int32 → Int32 → Int32 → Int32 → Option Nat → Option (Unit × AH)} (r_9 : ∀ (h : AH) (H : Heap) (locs : List Loc) (ls : Array Slot) (l0 : Option Nat) (l1 : Int32) (l2 : Int32) (l3 : Int32) (l4 : Int32) (l5 : Option Nat), r_B D b s h H locs → lv_has ls 7 [(0, va_rf l0), (1, .int l1), (2, .int l2), (3, .int l3), (4, .int l4), (5, va_rf l5)] → k_9 h l0 l1 l2 l3 l4 l5 = some (vv, hh) → W p l e ({ frames := 1, cells := 0, slots := 0, locals := 23 } : Room) s m args below meth c H locs 0 0 (MQ below (r_Q D b none hh) args s 0 0 (fun q => b ≤ q)) (F0 m 9 ls [])) {h : AH} {H : Heap} {locs : List Loc} {ls : Array Slot} {l0 : Option Nat} {l1 : Int32} {l2 : Int32} {l3 : Int32} {l4 : Int32} {l5 : Option Nat} {s0 : Int32} (B : r_B D b s h H locs) (hl : lv_has ls 7 [(0, va_rf l0), (1, .int l1), (2, .int l2), (3, .int l3), (4, .int l4), (5, va_rf l5)]) (hf : f_X2_shareFairly_34 k_9 h l0 l1 l2 l3 l4 l5 s0 = some (vv, hh)) : W p l e ({ frames := 1, cells := 0, slots := 0, locals := 23 } : Room) s m args below meth c H locs 0 0 (MQ below (r_Q D b none hh) args s 0 0 (fun q => b ≤ q)) (F0 m 34 ls [.int s0]) := by
  obtain ⟨⟨hx, hb, hml, hown, hts⟩, -⟩ := id X
  unfold f_X2_shareFairly_34 at hf
  refine lv_istore (lv' := [(6, .int s0), (0, va_rf l0), (1, .int l1), (2, .int l2), (3, .int l3), (4, .int l4), (5, va_rf l5)]) hx hb dX2_shareFairly_34 hl (by decide) (by first | rfl | simp [va_cat, cat_i, cat_r, cat_l]) (fun ls hl => ?_)
  refine r_aload hx hb dX2_shareFairly_36 (lv_at hl 6 rfl) ?_
  refine lv_iload_n hx hb dX2_shareFairly_38 rfl (lv_at hl 4 rfl) ?_
  refine lv_if_le (tgt := 49) hx hb dX2_shareFairly_39 (by decide) (fun q_ => ?_) (fun q_ => ?_)
  · have hf := (r_ite hf).1 q_
    refine lv_iconst (v := 0) hx hb dX2_shareFairly_49 (by decide) ?_
    exact t_X2_shareFairly_50 X hr hk hn r_9 B (lv_sub hl [1, 2, 3, 4, 5, 6, 0] rfl) hf
  · have hf := (r_ite hf).2 q_
    refine lv_iload hx hb dX2_shareFairly_42 (lv_at hl 0 rfl) ?_
    refine lv_iload_n hx hb dX2_shareFairly_44 rfl (lv_at hl 4 rfl) ?_
    refine r_div hx hb hf dX2_shareFairly_45 (fun v11 hf => ?_)
    refine lv_goto (tgt := 50) hx hb dX2_shareFairly_46 (by decide) ?_
    exact t_X2_shareFairly_50 X hr hk hn r_9 B (lv_sub hl [1, 2, 3, 4, 5, 6, 0] rfl) hf
set_option maxRecDepth 100000 in
set_option maxHeartbeats 4000000 in
theorem t_X2_shareFairly_9 {p : Program} {l : Launch} {e : Env} {s : State} {m : MethodId} {args : Array Value} {below : List Frame} {meth : Method} {c : Code} {D : RG} {b : Nat} {vv : Unit} {hh : AH} (X : r_C p c cX2_shareFairly 7 s m args RX2 D b) (hr : meth.sig.returnType = none) (hk : meth.locks = false) (hn : meth.name = "shareFairly") : ∀ (n : Nat) (h : AH) (H : Heap) (locs : List Loc) (ls : Array Slot) (l0 : Option Nat) (l1 : Int32) (l2 : Int32) (l3 : Int32) (l4 : Int32) (l5 : Option Nat), r_B D b s h H locs → lv_has ls 7 [(0, va_rf l0), (1, .int l1), (2, .int l2), (3, .int l3), (4, .int l4), (5, va_rf l5)] → f_X2_shareFairly_9 n h l0 l1 l2 l3 l4 l5 = some (vv, hh) → W p l e ({ frames := 1, cells := 0, slots := 0, locals := 23 } : Room) s m args below meth c H locs 0 0 (MQ below (r_Q D b none hh) args s 0 0 (fun q => b ≤ q)) (F0 m 9 ls []) := by
  obtain ⟨⟨hx, hb, hml, hown, hts⟩, -⟩ := id X
  intro n
  induction n with
  | zero =>
    intro h H locs ls l0 l1 l2 l3 l4 l5 B hl hf
    cases hf
  | succ n ih =>
    intro h H locs ls l0 l1 l2 l3 l4 l5 B hl hf
    unfold f_X2_shareFairly_9 at hf
    refine r_aload hx hb dX2_shareFairly_9 (lv_at hl 5 rfl) ?_
    refine r_ifnull (tgt := 88) hx hb hf dX2_shareFairly_11 (by decide) (fun hf e_ => ?_) (fun hf e_ => ?_)
    · exact t_X2_shareFairly_88 X hr hk hn  _ _ _ _ _ _ _ B (lv_sub hl [0, 4] rfl) hf
    · refine r_aload hx hb dX2_shareFairly_14 (lv_at hl 5 rfl) ?_
      refine r_gI X B hf fX1_2 (fun _ _ => rfl) m_520 dX2_shareFairly_16 (fun v12 hf => ?_)
      refine lv_iload_n hx hb dX2_shareFairly_19 rfl (lv_at hl 1 rfl) ?_
      refine lv_icmp_gt (tgt := 33) hx hb dX2_shareFairly_20 (by decide) (fun q_ => ?_) (fun q_ => ?_)
      · have hf := (r_ite hf).1 q_
        refine lv_iconst (v := 0) hx hb dX2_shareFairly_33 (by decide) ?_
        exact t_X2_shareFairly_34 X hr hk hn ih B (lv_sub hl [0, 1, 2, 3, 4, 5] rfl) hf
      · have hf := (r_ite hf).2 q_
        refine lv_iload_n hx hb dX2_shareFairly_23 rfl (lv_at hl 2 rfl) ?_
        refine r_aload hx hb dX2_shareFairly_24 (lv_at hl 5 rfl) ?_
        refine r_gI X B hf fX1_3 (fun _ _ => rfl) m_511 dX2_shareFairly_26 (fun v13 hf => ?_)
        refine lv_imul hx hb dX2_shareFairly_29 ?_
        refine lv_goto (tgt := 34) hx hb dX2_shareFairly_30 (by decide) ?_
        exact t_X2_shareFairly_34 X hr hk hn ih B (lv_sub hl [0, 1, 2, 3, 4, 5] rfl) hf
set_option maxRecDepth 100000 in
set_option maxHeartbeats 4000000 in
theorem c_X2_shareFairly {l : Launch} {D : RG} {b : Nat} {h : AH} {l0 : Option Nat} {l1 : Int32} {l2 : Int32} {l3 : Int32} {vv : Unit} {hh : AH} (hf : f_X2_shareFairly h l0 l1 l2 l3 = some (vv, hh)) : Met l yX2_shareFairly (Cond.code yX2_shareFairly cX2_shareFairly 7 none :: wsL_law) ({ frames := 1, cells := 0, slots := 0, locals := 23 } : Room) (va_Pc [va_rf l0, .int l1, .int l2, .int l3] (r_I D b h)) (r_Q D b none hh) 0 0 (fun q => b ≤ q) := by
  refine r_ofW (own := RX2) rfl (by decide +kernel) (by simp [lg_sl, va_cat, cat_i, cat_r, cat_l]) ?_
  intro p e s m args below meth c ls X B hr hk hn hl
  have hl : lv_has ls 7 [(0, va_rf l0), (1, .int l1), (2, .int l2), (3, .int l3)] := by simpa [lv_args, va_cat, cat_i, cat_r, cat_l] using hl
  obtain ⟨⟨hx, hb, hml, hown, hts⟩, -⟩ := id X
  generalize s.heap = H at B ⊢
  generalize ([] : List Loc) = locs at B ⊢
  unfold f_X2_shareFairly at hf
  refine lv_iload_n hx hb dX2_shareFairly_0 rfl (lv_at hl 2 rfl) ?_
  refine lv_istore (lv' := [(4, .int l2), (0, va_rf l0), (1, .int l1), (2, .int l2), (3, .int l3)]) hx hb dX2_shareFairly_1 hl (by decide) (by first | rfl | simp [va_cat, cat_i, cat_r, cat_l]) (fun ls hl => ?_)
  refine r_aload_n hx hb dX2_shareFairly_3 rfl (lv_at hl 1 rfl) ?_
  refine r_gR X B hf fX5_9 (fun _ _ => rfl) m_509 dX2_shareFairly_4 (fun v14 hf => ?_)
  refine r_astore (lv' := [(5, va_rf v14), (4, .int l2), (0, va_rf l0), (1, .int l1), (2, .int l2), (3, .int l3)]) hx hb dX2_shareFairly_7 hl (by decide) (by first | rfl | simp [va_cat, cat_i, cat_r, cat_l]) (fun ls hl => ?_)
  exact t_X2_shareFairly_9 X hr hk hn  _ _ _ _ _ _ _ _ _ _ _ B (lv_sub hl [2, 3, 4, 5, 1, 0] rfl) hf
def f_X2_shareInOrder_42 (k_8 : AH → Int32 → Int32 → Option Nat → Option (Unit × AH)) (h : AH) (l1 : Int32) (l3 : Int32) (l4 : Option Nat) (s0 : Option Nat) (s1 : Int32) : Option (Unit × AH) := pI h s0 1 7 s1 (fun h1 => gI h1 l4 1 7 (fun v2 => bd (l3 - v2) (fun v3 => gR h1 l4 1 6 (fun v4 => k_8 h1 l1 v3 v4))))
def f_X2_shareInOrder_41 (k_8 : AH → Int32 → Int32 → Option Nat → Option (Unit × AH)) (h : AH) (l1 : Int32) (l3 : Int32) (l4 : Option Nat) (s0 : Option Nat) : Option (Unit × AH) := f_X2_shareInOrder_42 k_8 h l1 l3 l4 s0 0
def f_X2_shareInOrder_8 : Nat → AH → Int32 → Int32 → Option Nat → Option (Unit × AH)
  | 0, _, _, _, _ => none
  | n + 1, h, l1, l3, l4 => nul l4 (some ((), h)) (gI h l4 1 2 (fun v5 => if l1 < v5 then f_X2_shareInOrder_41 (f_X2_shareInOrder_8 n) h l1 l3 l4 l4 else gI h l4 1 3 (fun v6 => if l3 < v6 then f_X2_shareInOrder_41 (f_X2_shareInOrder_8 n) h l1 l3 l4 l4 else gI h l4 1 3 (fun v7 => f_X2_shareInOrder_42 (f_X2_shareInOrder_8 n) h l1 l3 l4 l4 v7))))
def f_X2_shareInOrder (h : AH) (l0 : Option Nat) (l1 : Int32) (l2 : Int32) : Option (Unit × AH) := gR h l0 5 9 (fun v8 => f_X2_shareInOrder_8 FU h l1 l2 v8)
set_option maxRecDepth 100000 in
set_option maxHeartbeats 4000000 in
theorem t_X2_shareInOrder_42 {p : Program} {l : Launch} {e : Env} {s : State} {m : MethodId} {args : Array Value} {below : List Frame} {meth : Method} {c : Code} {D : RG} {b : Nat} {vv : Unit} {hh : AH} (X : r_C p c cX2_shareInOrder 5 s m args RX2 D b) (hr : meth.sig.returnType = none) (hk : meth.locks = false) (hn : meth.name = "shareInOrder") {k_8 : AH → Int32 → Int32 → Option Nat → Option (Unit × AH)} (r_8 : ∀ (h : AH) (H : Heap) (locs : List Loc) (ls : Array Slot) (l1 : Int32) (l3 : Int32) (l4 : Option Nat), r_B D b s h H locs → lv_has ls 5 [(1, .int l1), (3, .int l3), (4, va_rf l4)] → k_8 h l1 l3 l4 = some (vv, hh) → W p l e ({ frames := 0, cells := 0, slots := 0, locals := 0 } : Room) s m args below meth c H locs 0 0 (MQ below (r_Q D b none hh) args s 0 0 (fun q => b ≤ q)) (F0 m 8 ls [])) {h : AH} {H : Heap} {locs : List Loc} {ls : Array Slot} {l1 : Int32} {l3 : Int32} {l4 : Option Nat} {s0 : Option Nat} {s1 : Int32} (B : r_B D b s h H locs) (hl : lv_has ls 5 [(1, .int l1), (3, .int l3), (4, va_rf l4)]) (hf : f_X2_shareInOrder_42 k_8 h l1 l3 l4 s0 s1 = some (vv, hh)) : W p l e ({ frames := 0, cells := 0, slots := 0, locals := 0 } : Room) s m args below meth c H locs 0 0 (MQ below (r_Q D b none hh) args s 0 0 (fun q => b ≤ q)) (F0 m 42 ls [.int s1, va_rf s0]) := by
  obtain ⟨⟨hx, hb, hml, hown, hts⟩, -⟩ := id X
  unfold f_X2_shareInOrder_42 at hf
  refine r_pI X B hf fX1_7 (Or.inl rfl) m_510 dX2_shareInOrder_42 (fun h1 H locs B hf => ?_)
  refine lv_iload_n hx hb dX2_shareInOrder_45 rfl (lv_at hl 1 rfl) ?_
  refine r_aload hx hb dX2_shareInOrder_46 (lv_at hl 2 rfl) ?_
  refine r_gI X B hf fX1_7 (fun _ _ => rfl) m_510 dX2_shareInOrder_48 (fun v2 hf => ?_)
  refine lv_isub hx hb dX2_shareInOrder_51 ?_
  refine r_bd hf (fun v3 hf => ?_)
  refine lv_istore_n (lv' := [(3, .int v3), (1, .int l1), (4, va_rf l4)]) hx hb dX2_shareInOrder_52 rfl hl (by decide) (by first | rfl | simp [va_cat, cat_i, cat_r, cat_l]) (fun ls hl => ?_)
  refine r_aload hx hb dX2_shareInOrder_53 (lv_at hl 2 rfl) ?_
  refine r_gR X B hf fX1_6 (fun _ _ => rfl) m_512 dX2_shareInOrder_55 (fun v4 hf => ?_)
  refine r_astore (lv' := [(4, va_rf v4), (3, .int v3), (1, .int l1)]) hx hb dX2_shareInOrder_58 hl (by decide) (by first | rfl | simp [va_cat, cat_i, cat_r, cat_l]) (fun ls hl => ?_)
  refine lv_goto (tgt := 8) hx hb dX2_shareInOrder_60 (by decide) ?_
  exact r_8 _ _ _ _ _ _ _ B (lv_sub hl [2, 1, 0] rfl) hf
set_option maxRecDepth 100000 in
set_option maxHeartbeats 4000000 in
theorem t_X2_shareInOrder_41 {p : Program} {l : Launch} {e : Env} {s : State} {m : MethodId} {args : Array Value} {below : List Frame} {meth : Method} {c : Code} {D : RG} {b : Nat} {vv : Unit} {hh : AH} (X : r_C p c cX2_shareInOrder 5 s m args RX2 D b) (hr : meth.sig.returnType = none) (hk : meth.locks = false) (hn : meth.name = "shareInOrder") {k_8 : AH → Int32 → Int32 → Option Nat → Option (Unit × AH)} (r_8 : ∀ (h : AH) (H : Heap) (locs : List Loc) (ls : Array Slot) (l1 : Int32) (l3 : Int32) (l4 : Option Nat), r_B D b s h H locs → lv_has ls 5 [(1, .int l1), (3, .int l3), (4, va_rf l4)] → k_8 h l1 l3 l4 = some (vv, hh) → W p l e ({ frames := 0, cells := 0, slots := 0, locals := 0 } : Room) s m args below meth c H locs 0 0 (MQ below (r_Q D b none hh) args s 0 0 (fun q => b ≤ q)) (F0 m 8 ls [])) {h : AH} {H : Heap} {locs : List Loc} {ls : Array Slot} {l1 : Int32} {l3 : Int32} {l4 : Option Nat} {s0 : Option Nat} (B : r_B D b s h H locs) (hl : lv_has ls 5 [(1, .int l1), (3, .int l3), (4, va_rf l4)]) (hf : f_X2_shareInOrder_41 k_8 h l1 l3 l4 s0 = some (vv, hh)) : W p l e ({ frames := 0, cells := 0, slots := 0, locals := 0 } : Room) s m args below meth c H locs 0 0 (MQ below (r_Q D b none hh) args s 0 0 (fun q => b ≤ q)) (F0 m 41 ls [va_rf s0]) := by
  obtain ⟨⟨hx, hb, hml, hown, hts⟩, -⟩ := id X
  unfold f_X2_shareInOrder_41 at hf
  refine lv_iconst (v := 0) hx hb dX2_shareInOrder_41 (by decide) ?_
  exact t_X2_shareInOrder_42 X hr hk hn r_8 B (lv_sub hl [0, 1, 2] rfl) hf
set_option maxRecDepth 100000 in
set_option maxHeartbeats 4000000 in
theorem t_X2_shareInOrder_8 {p : Program} {l : Launch} {e : Env} {s : State} {m : MethodId} {args : Array Value} {below : List Frame} {meth : Method} {c : Code} {D : RG} {b : Nat} {vv : Unit} {hh : AH} (X : r_C p c cX2_shareInOrder 5 s m args RX2 D b) (hr : meth.sig.returnType = none) (hk : meth.locks = false) (hn : meth.name = "shareInOrder") : ∀ (n : Nat) (h : AH) (H : Heap) (locs : List Loc) (ls : Array Slot) (l1 : Int32) (l3 : Int32) (l4 : Option Nat), r_B D b s h H locs → lv_has ls 5 [(1, .int l1), (3, .int l3), (4, va_rf l4)] → f_X2_shareInOrder_8 n h l1 l3 l4 = some (vv, hh) → W p l e ({ frames := 0, cells := 0, slots := 0, locals := 0 } : Room) s m args below meth c H locs 0 0 (MQ below (r_Q D b none hh) args s 0 0 (fun q => b ≤ q)) (F0 m 8 ls []) := by
  obtain ⟨⟨hx, hb, hml, hown, hts⟩, -⟩ := id X
  intro n
  induction n with
  | zero =>
    intro h H locs ls l1 l3 l4 B hl hf
    cases hf
  | succ n ih =>
    intro h H locs ls l1 l3 l4 B hl hf
    unfold f_X2_shareInOrder_8 at hf
    refine r_aload hx hb dX2_shareInOrder_8 (lv_at hl 2 rfl) ?_
    refine r_ifnull (tgt := 63) hx hb hf dX2_shareInOrder_10 (by decide) (fun hf e_ => ?_) (fun hf e_ => ?_)
    · exact r_vret X B hr hk hf dX2_shareInOrder_63
    · refine r_aload hx hb dX2_shareInOrder_13 (lv_at hl 2 rfl) ?_
      refine r_aload hx hb dX2_shareInOrder_15 (lv_at hl 2 rfl) ?_
      refine r_gI X B hf fX1_2 (fun _ _ => rfl) m_520 dX2_shareInOrder_17 (fun v5 hf => ?_)
      refine lv_iload_n hx hb dX2_shareInOrder_20 rfl (lv_at hl 0 rfl) ?_
      refine lv_icmp_gt (tgt := 41) hx hb dX2_shareInOrder_21 (by decide) (fun q_ => ?_) (fun q_ => ?_)
      · have hf := (r_ite hf).1 q_
        exact t_X2_shareInOrder_41 X hr hk hn ih B (lv_sub hl [0, 1, 2] rfl) hf
      · have hf := (r_ite hf).2 q_
        refine r_aload hx hb dX2_shareInOrder_24 (lv_at hl 2 rfl) ?_
        refine r_gI X B hf fX1_3 (fun _ _ => rfl) m_511 dX2_shareInOrder_26 (fun v6 hf => ?_)
        refine lv_iload_n hx hb dX2_shareInOrder_29 rfl (lv_at hl 1 rfl) ?_
        refine lv_icmp_gt (tgt := 41) hx hb dX2_shareInOrder_30 (by decide) (fun q_ => ?_) (fun q_ => ?_)
        · have hf := (r_ite hf).1 q_
          exact t_X2_shareInOrder_41 X hr hk hn ih B (lv_sub hl [0, 1, 2] rfl) hf
        · have hf := (r_ite hf).2 q_
          refine r_aload hx hb dX2_shareInOrder_33 (lv_at hl 2 rfl) ?_
          refine r_gI X B hf fX1_3 (fun _ _ => rfl) m_511 dX2_shareInOrder_35 (fun v7 hf => ?_)
          refine lv_goto (tgt := 42) hx hb dX2_shareInOrder_38 (by decide) ?_
          exact t_X2_shareInOrder_42 X hr hk hn ih B (lv_sub hl [0, 1, 2] rfl) hf
set_option maxRecDepth 100000 in
set_option maxHeartbeats 4000000 in
theorem c_X2_shareInOrder {l : Launch} {D : RG} {b : Nat} {h : AH} {l0 : Option Nat} {l1 : Int32} {l2 : Int32} {vv : Unit} {hh : AH} (hf : f_X2_shareInOrder h l0 l1 l2 = some (vv, hh)) : Met l yX2_shareInOrder (Cond.code yX2_shareInOrder cX2_shareInOrder 5 none :: wsL_law) ({ frames := 0, cells := 0, slots := 0, locals := 0 } : Room) (va_Pc [va_rf l0, .int l1, .int l2] (r_I D b h)) (r_Q D b none hh) 0 0 (fun q => b ≤ q) := by
  refine r_ofW (own := RX2) rfl (by decide +kernel) (by simp [lg_sl, va_cat, cat_i, cat_r, cat_l]) ?_
  intro p e s m args below meth c ls X B hr hk hn hl
  have hl : lv_has ls 5 [(0, va_rf l0), (1, .int l1), (2, .int l2)] := by simpa [lv_args, va_cat, cat_i, cat_r, cat_l] using hl
  obtain ⟨⟨hx, hb, hml, hown, hts⟩, -⟩ := id X
  generalize s.heap = H at B ⊢
  generalize ([] : List Loc) = locs at B ⊢
  unfold f_X2_shareInOrder at hf
  refine lv_iload_n hx hb dX2_shareInOrder_0 rfl (lv_at hl 2 rfl) ?_
  refine lv_istore_n (lv' := [(3, .int l2), (0, va_rf l0), (1, .int l1), (2, .int l2)]) hx hb dX2_shareInOrder_1 rfl hl (by decide) (by first | rfl | simp [va_cat, cat_i, cat_r, cat_l]) (fun ls hl => ?_)
  refine r_aload_n hx hb dX2_shareInOrder_2 rfl (lv_at hl 1 rfl) ?_
  refine r_gR X B hf fX5_9 (fun _ _ => rfl) m_509 dX2_shareInOrder_3 (fun v8 hf => ?_)
  refine r_astore (lv' := [(4, va_rf v8), (3, .int l2), (0, va_rf l0), (1, .int l1), (2, .int l2)]) hx hb dX2_shareInOrder_6 hl (by decide) (by first | rfl | simp [va_cat, cat_i, cat_r, cat_l]) (fun ls hl => ?_)
  exact t_X2_shareInOrder_8 X hr hk hn  _ _ _ _ _ _ _ _ B (lv_sub hl [3, 1, 0] rfl) hf
end
section
theorem zz_last : True := trivial
end

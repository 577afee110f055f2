section
-- ===== PART A: goes FIRST, ahead of the names: the tables' words, and 'selects' of the private methods out of them =====
/-- a private method of a class that the tables say can be made, by its rows of tables_1 -/
def lw_okq (q : MethodName × Nat) : Prop := (q.1.cls ≠ "java/lang/invoke/MethodHandle" ∧ q.1.cls ≠ "java/lang/invoke/VarHandle") ∧ Cond.instantiable q.1.cls q.2 ∈ tables_1 ∧ Cond.privateMethod q.1 ∈ tables_1 ∧ Cond.instanceMethod q.1 ∈ tables_1
theorem lw_p0 : lw_okq (⟨"TankChain", "tankAt", "(I)LTankChain$Tank;"⟩, 15) := ⟨⟨by decide +kernel, by decide +kernel⟩, List.mem_of_getElem? (i := 16) (by decide +kernel), List.mem_of_getElem? (i := 281) (by decide +kernel), List.mem_of_getElem? (i := 282) (by decide +kernel)⟩
theorem lw_p1 : lw_okq (⟨"TankChain$Tape", "putByte", "(I)V"⟩, 6) := ⟨⟨by decide +kernel, by decide +kernel⟩, List.mem_of_getElem? (i := 26) (by decide +kernel), List.mem_of_getElem? (i := 393) (by decide +kernel), List.mem_of_getElem? (i := 394) (by decide +kernel)⟩
theorem lw_p2 : lw_okq (⟨"TankChain$Tape", "nextToken", "()V"⟩, 6) := ⟨⟨by decide +kernel, by decide +kernel⟩, List.mem_of_getElem? (i := 26) (by decide +kernel), List.mem_of_getElem? (i := 409) (by decide +kernel), List.mem_of_getElem? (i := 410) (by decide +kernel)⟩
theorem lw_p3 : lw_okq (⟨"TankChain$Tape", "byteAt", "(I)I"⟩, 6) := ⟨⟨by decide +kernel, by decide +kernel⟩, List.mem_of_getElem? (i := 26) (by decide +kernel), List.mem_of_getElem? (i := 413) (by decide +kernel), List.mem_of_getElem? (i := 414) (by decide +kernel)⟩
theorem lw_p4 : lw_okq (⟨"TankChain$Tape", "readStatement", "(LTankChain$Custom;)Z"⟩, 6) := ⟨⟨by decide +kernel, by decide +kernel⟩, List.mem_of_getElem? (i := 26) (by decide +kernel), List.mem_of_getElem? (i := 426) (by decide +kernel), List.mem_of_getElem? (i := 427) (by decide +kernel)⟩
theorem lw_p5 : lw_okq (⟨"TankChain$Tape", "isWord", "(Ljava/lang/String;)Z"⟩, 6) := ⟨⟨by decide +kernel, by decide +kernel⟩, List.mem_of_getElem? (i := 26) (by decide +kernel), List.mem_of_getElem? (i := 431) (by decide +kernel), List.mem_of_getElem? (i := 432) (by decide +kernel)⟩
theorem lw_p6 : lw_okq (⟨"TankChain$Tape", "readFirst", "(LTankChain$Custom;)Z"⟩, 6) := ⟨⟨by decide +kernel, by decide +kernel⟩, List.mem_of_getElem? (i := 26) (by decide +kernel), List.mem_of_getElem? (i := 483) (by decide +kernel), List.mem_of_getElem? (i := 484) (by decide +kernel)⟩
theorem lw_p7 : lw_okq (⟨"TankChain$Tape", "numberHere", "()I"⟩, 6) := ⟨⟨by decide +kernel, by decide +kernel⟩, List.mem_of_getElem? (i := 26) (by decide +kernel), List.mem_of_getElem? (i := 494) (by decide +kernel), List.mem_of_getElem? (i := 495) (by decide +kernel)⟩
theorem lw_p8 : lw_okq (⟨"TankChain", "orderAnew", "()V"⟩, 15) := ⟨⟨by decide +kernel, by decide +kernel⟩, List.mem_of_getElem? (i := 16) (by decide +kernel), List.mem_of_getElem? (i := 506) (by decide +kernel), List.mem_of_getElem? (i := 507) (by decide +kernel)⟩
theorem lw_p9 : lw_okq (⟨"TankChain", "fieldAt", "(I)LTankChain$Field;"⟩, 15) := ⟨⟨by decide +kernel, by decide +kernel⟩, List.mem_of_getElem? (i := 16) (by decide +kernel), List.mem_of_getElem? (i := 510) (by decide +kernel), List.mem_of_getElem? (i := 511) (by decide +kernel)⟩
theorem lw_p10 : lw_okq (⟨"TankChain", "addSilt", "()V"⟩, 15) := ⟨⟨by decide +kernel, by decide +kernel⟩, List.mem_of_getElem? (i := 16) (by decide +kernel), List.mem_of_getElem? (i := 522) (by decide +kernel), List.mem_of_getElem? (i := 523) (by decide +kernel)⟩
theorem lw_p11 : lw_okq (⟨"TankChain$Flow", "sentDown", "(LTankChain$Tank;II)I"⟩, 4) := ⟨⟨by decide +kernel, by decide +kernel⟩, List.mem_of_getElem? (i := 207) (by decide +kernel), List.mem_of_getElem? (i := 542) (by decide +kernel), List.mem_of_getElem? (i := 543) (by decide +kernel)⟩
theorem lw_p12 : lw_okq (⟨"TankChain$Flow", "takenByFields", "(LTankChain$Tank;I)I"⟩, 4) := ⟨⟨by decide +kernel, by decide +kernel⟩, List.mem_of_getElem? (i := 207) (by decide +kernel), List.mem_of_getElem? (i := 546) (by decide +kernel), List.mem_of_getElem? (i := 547) (by decide +kernel)⟩
theorem lw_p13 : lw_okq (⟨"TankChain", "keepTanks", "()V"⟩, 15) := ⟨⟨by decide +kernel, by decide +kernel⟩, List.mem_of_getElem? (i := 16) (by decide +kernel), List.mem_of_getElem? (i := 573) (by decide +kernel), List.mem_of_getElem? (i := 574) (by decide +kernel)⟩
theorem lw_p14 : lw_okq (⟨"TankChain", "keepFields", "()V"⟩, 15) := ⟨⟨by decide +kernel, by decide +kernel⟩, List.mem_of_getElem? (i := 16) (by decide +kernel), List.mem_of_getElem? (i := 578) (by decide +kernel), List.mem_of_getElem? (i := 579) (by decide +kernel)⟩
theorem lw_p15 : lw_okq (⟨"TankChain", "waterTried", "(LTankChain$Tank;LTankChain$Tank;II)I"⟩, 15) := ⟨⟨by decide +kernel, by decide +kernel⟩, List.mem_of_getElem? (i := 16) (by decide +kernel), List.mem_of_getElem? (i := 618) (by decide +kernel), List.mem_of_getElem? (i := 619) (by decide +kernel)⟩
def lw_privs_1 : List (MethodName × Nat) := [(⟨"TankChain", "tankAt", "(I)LTankChain$Tank;"⟩, 15), (⟨"TankChain$Tape", "putByte", "(I)V"⟩, 6), (⟨"TankChain$Tape", "nextToken", "()V"⟩, 6), (⟨"TankChain$Tape", "byteAt", "(I)I"⟩, 6), (⟨"TankChain$Tape", "readStatement", "(LTankChain$Custom;)Z"⟩, 6), (⟨"TankChain$Tape", "isWord", "(Ljava/lang/String;)Z"⟩, 6), (⟨"TankChain$Tape", "readFirst", "(LTankChain$Custom;)Z"⟩, 6), (⟨"TankChain$Tape", "numberHere", "()I"⟩, 6), (⟨"TankChain", "orderAnew", "()V"⟩, 15), (⟨"TankChain", "fieldAt", "(I)LTankChain$Field;"⟩, 15), (⟨"TankChain", "addSilt", "()V"⟩, 15), (⟨"TankChain$Flow", "sentDown", "(LTankChain$Tank;II)I"⟩, 4), (⟨"TankChain$Flow", "takenByFields", "(LTankChain$Tank;I)I"⟩, 4), (⟨"TankChain", "keepTanks", "()V"⟩, 15), (⟨"TankChain", "keepFields", "()V"⟩, 15), (⟨"TankChain", "waterTried", "(LTankChain$Tank;LTankChain$Tank;II)I"⟩, 15)]
theorem lw_r1 : ∀ q ∈ lw_privs_1, lw_okq q := List.forall_mem_cons.mpr ⟨lw_p0, List.forall_mem_cons.mpr ⟨lw_p1, List.forall_mem_cons.mpr ⟨lw_p2, List.forall_mem_cons.mpr ⟨lw_p3, List.forall_mem_cons.mpr ⟨lw_p4, List.forall_mem_cons.mpr ⟨lw_p5, List.forall_mem_cons.mpr ⟨lw_p6, List.forall_mem_cons.mpr ⟨lw_p7, List.forall_mem_cons.mpr ⟨lw_p8, List.forall_mem_cons.mpr ⟨lw_p9, List.forall_mem_cons.mpr ⟨lw_p10, List.forall_mem_cons.mpr ⟨lw_p11, List.forall_mem_cons.mpr ⟨lw_p12, List.forall_mem_cons.mpr ⟨lw_p13, List.forall_mem_cons.mpr ⟨lw_p14, List.forall_mem_cons.mpr ⟨lw_p15, fun _ h => absurd h List.not_mem_nil⟩⟩⟩⟩⟩⟩⟩⟩⟩⟩⟩⟩⟩⟩⟩⟩
theorem lw_p16 : lw_okq (⟨"TankChain", "areasFedBy", "(IIIII)I"⟩, 15) := ⟨⟨by decide +kernel, by decide +kernel⟩, List.mem_of_getElem? (i := 16) (by decide +kernel), List.mem_of_getElem? (i := 631) (by decide +kernel), List.mem_of_getElem? (i := 632) (by decide +kernel)⟩
theorem lw_p17 : lw_okq (⟨"TankChain", "allWater", "()I"⟩, 15) := ⟨⟨by decide +kernel, by decide +kernel⟩, List.mem_of_getElem? (i := 16) (by decide +kernel), List.mem_of_getElem? (i := 646) (by decide +kernel), List.mem_of_getElem? (i := 647) (by decide +kernel)⟩
theorem lw_p18 : lw_okq (⟨"TankChainModel", "isTank", "(I)Z"⟩, 47) := ⟨⟨by decide +kernel, by decide +kernel⟩, List.mem_of_getElem? (i := 653) (by decide +kernel), List.mem_of_getElem? (i := 808) (by decide +kernel), List.mem_of_getElem? (i := 809) (by decide +kernel)⟩
theorem lw_p19 : lw_okq (⟨"TankChainModel", "room", "(IZ)I"⟩, 47) := ⟨⟨by decide +kernel, by decide +kernel⟩, List.mem_of_getElem? (i := 653) (by decide +kernel), List.mem_of_getElem? (i := 819) (by decide +kernel), List.mem_of_getElem? (i := 820) (by decide +kernel)⟩
theorem lw_p20 : lw_okq (⟨"TankChainModel", "four", "(I)V"⟩, 47) := ⟨⟨by decide +kernel, by decide +kernel⟩, List.mem_of_getElem? (i := 653) (by decide +kernel), List.mem_of_getElem? (i := 843) (by decide +kernel), List.mem_of_getElem? (i := 844) (by decide +kernel)⟩
theorem lw_p21 : lw_okq (⟨"TankChainModel", "blanks", "()V"⟩, 47) := ⟨⟨by decide +kernel, by decide +kernel⟩, List.mem_of_getElem? (i := 653) (by decide +kernel), List.mem_of_getElem? (i := 851) (by decide +kernel), List.mem_of_getElem? (i := 852) (by decide +kernel)⟩
theorem lw_p22 : lw_okq (⟨"TankChainModel", "statement", "()Z"⟩, 47) := ⟨⟨by decide +kernel, by decide +kernel⟩, List.mem_of_getElem? (i := 653) (by decide +kernel), List.mem_of_getElem? (i := 855) (by decide +kernel), List.mem_of_getElem? (i := 856) (by decide +kernel)⟩
theorem lw_p23 : lw_okq (⟨"TankChainModel", "takes", "(J)Z"⟩, 47) := ⟨⟨by decide +kernel, by decide +kernel⟩, List.mem_of_getElem? (i := 653) (by decide +kernel), List.mem_of_getElem? (i := 860) (by decide +kernel), List.mem_of_getElem? (i := 861) (by decide +kernel)⟩
theorem lw_p24 : lw_okq (⟨"TankChainModel", "word", "()J"⟩, 47) := ⟨⟨by decide +kernel, by decide +kernel⟩, List.mem_of_getElem? (i := 653) (by decide +kernel), List.mem_of_getElem? (i := 864) (by decide +kernel), List.mem_of_getElem? (i := 865) (by decide +kernel)⟩
theorem lw_p25 : lw_okq (⟨"TankChainModel", "takesNumber", "()Z"⟩, 47) := ⟨⟨by decide +kernel, by decide +kernel⟩, List.mem_of_getElem? (i := 653) (by decide +kernel), List.mem_of_getElem? (i := 871) (by decide +kernel), List.mem_of_getElem? (i := 872) (by decide +kernel)⟩
theorem lw_p26 : lw_okq (⟨"TankChainModel", "ordered", "(I)I"⟩, 47) := ⟨⟨by decide +kernel, by decide +kernel⟩, List.mem_of_getElem? (i := 653) (by decide +kernel), List.mem_of_getElem? (i := 885) (by decide +kernel), List.mem_of_getElem? (i := 886) (by decide +kernel)⟩
theorem lw_p27 : lw_okq (⟨"TankChainModel", "isAhead", "(II)Z"⟩, 47) := ⟨⟨by decide +kernel, by decide +kernel⟩, List.mem_of_getElem? (i := 653) (by decide +kernel), List.mem_of_getElem? (i := 889) (by decide +kernel), List.mem_of_getElem? (i := 890) (by decide +kernel)⟩
theorem lw_p28 : lw_okq (⟨"TankChainModel", "custom", "(II)I"⟩, 47) := ⟨⟨by decide +kernel, by decide +kernel⟩, List.mem_of_getElem? (i := 653) (by decide +kernel), List.mem_of_getElem? (i := 893) (by decide +kernel), List.mem_of_getElem? (i := 894) (by decide +kernel)⟩
theorem lw_p29 : lw_okq (⟨"TankChainModel", "flows", "([I[Z[IIZ)I"⟩, 47) := ⟨⟨by decide +kernel, by decide +kernel⟩, List.mem_of_getElem? (i := 653) (by decide +kernel), List.mem_of_getElem? (i := 904) (by decide +kernel), List.mem_of_getElem? (i := 905) (by decide +kernel)⟩
theorem lw_p30 : lw_okq (⟨"TankChainModel", "gives", "(III)I"⟩, 47) := ⟨⟨by decide +kernel, by decide +kernel⟩, List.mem_of_getElem? (i := 653) (by decide +kernel), List.mem_of_getElem? (i := 908) (by decide +kernel), List.mem_of_getElem? (i := 909) (by decide +kernel)⟩
theorem lw_p31 : lw_okq (⟨"TankChainModel", "isBad", "(II)Z"⟩, 47) := ⟨⟨by decide +kernel, by decide +kernel⟩, List.mem_of_getElem? (i := 653) (by decide +kernel), List.mem_of_getElem? (i := 912) (by decide +kernel), List.mem_of_getElem? (i := 913) (by decide +kernel)⟩
def lw_privs_2 : List (MethodName × Nat) := [(⟨"TankChain", "areasFedBy", "(IIIII)I"⟩, 15), (⟨"TankChain", "allWater", "()I"⟩, 15), (⟨"TankChainModel", "isTank", "(I)Z"⟩, 47), (⟨"TankChainModel", "room", "(IZ)I"⟩, 47), (⟨"TankChainModel", "four", "(I)V"⟩, 47), (⟨"TankChainModel", "blanks", "()V"⟩, 47), (⟨"TankChainModel", "statement", "()Z"⟩, 47), (⟨"TankChainModel", "takes", "(J)Z"⟩, 47), (⟨"TankChainModel", "word", "()J"⟩, 47), (⟨"TankChainModel", "takesNumber", "()Z"⟩, 47), (⟨"TankChainModel", "ordered", "(I)I"⟩, 47), (⟨"TankChainModel", "isAhead", "(II)Z"⟩, 47), (⟨"TankChainModel", "custom", "(II)I"⟩, 47), (⟨"TankChainModel", "flows", "([I[Z[IIZ)I"⟩, 47), (⟨"TankChainModel", "gives", "(III)I"⟩, 47), (⟨"TankChainModel", "isBad", "(II)Z"⟩, 47)]
theorem lw_r2 : ∀ q ∈ lw_privs_2, lw_okq q := List.forall_mem_cons.mpr ⟨lw_p16, List.forall_mem_cons.mpr ⟨lw_p17, List.forall_mem_cons.mpr ⟨lw_p18, List.forall_mem_cons.mpr ⟨lw_p19, List.forall_mem_cons.mpr ⟨lw_p20, List.forall_mem_cons.mpr ⟨lw_p21, List.forall_mem_cons.mpr ⟨lw_p22, List.forall_mem_cons.mpr ⟨lw_p23, List.forall_mem_cons.mpr ⟨lw_p24, List.forall_mem_cons.mpr ⟨lw_p25, List.forall_mem_cons.mpr ⟨lw_p26, List.forall_mem_cons.mpr ⟨lw_p27, List.forall_mem_cons.mpr ⟨lw_p28, List.forall_mem_cons.mpr ⟨lw_p29, List.forall_mem_cons.mpr ⟨lw_p30, List.forall_mem_cons.mpr ⟨lw_p31, fun _ h => absurd h List.not_mem_nil⟩⟩⟩⟩⟩⟩⟩⟩⟩⟩⟩⟩⟩⟩⟩⟩
theorem lw_p32 : lw_okq (⟨"TankChainModel", "openings", "()V"⟩, 47) := ⟨⟨by decide +kernel, by decide +kernel⟩, List.mem_of_getElem? (i := 653) (by decide +kernel), List.mem_of_getElem? (i := 935) (by decide +kernel), List.mem_of_getElem? (i := 936) (by decide +kernel)⟩
theorem lw_p33 : lw_okq (⟨"TankChainModel", "tries", "(II)I"⟩, 47) := ⟨⟨by decide +kernel, by decide +kernel⟩, List.mem_of_getElem? (i := 653) (by decide +kernel), List.mem_of_getElem? (i := 939) (by decide +kernel), List.mem_of_getElem? (i := 940) (by decide +kernel)⟩
def lw_privs_3 : List (MethodName × Nat) := [(⟨"TankChainModel", "openings", "()V"⟩, 47), (⟨"TankChainModel", "tries", "(II)I"⟩, 47)]
theorem lw_r3 : ∀ q ∈ lw_privs_3, lw_okq q := List.forall_mem_cons.mpr ⟨lw_p32, List.forall_mem_cons.mpr ⟨lw_p33, fun _ h => absurd h List.not_mem_nil⟩⟩
def lw_privs : List (MethodName × Nat) := lw_privs_1 ++ (lw_privs_2 ++ (lw_privs_3))
def lw_tbl : List Cond := k2_sels lw_privs ++ tables_1
theorem lw_privs_ok : ∀ q ∈ lw_privs, lw_okq q := by
  show ∀ q ∈ lw_privs_1 ++ (lw_privs_2 ++ (lw_privs_3)), lw_okq q
  exact List.forall_mem_append.mpr ⟨lw_r1, List.forall_mem_append.mpr ⟨lw_r2, lw_r3⟩⟩
end
section
/-! ===== BEGIN words of one list among another's, by their places ===== -/
theorem goodIn_r {big : List Cond} (ws : List Cond) (ps : List Nat) (hp : ws = ps.filterMap (fun i => big[i]?)) (h : ws.all goodWord = true) : GoodIn big ws := by
  intro w hw
  have h1 := List.all_eq_true.mp h w hw
  rw [hp] at hw
  obtain ⟨i, -, hi⟩ := List.mem_filterMap.mp hw
  have hm : w ∈ big := by first | exact List.mem_of_getElem? hi | exact List.getElem?_mem hi
  exact ⟨hm, good_of_word h1⟩
theorem goodIn_app {big a b : List Cond} (ha : GoodIn big a) (hb : GoodIn big b) : GoodIn big (a ++ b) := fun w h => (List.mem_append.mp h).elim (ha w) (hb w)
theorem goodIn_ca {big a b : List Cond} {c : Cond} (ha : GoodIn big (c :: a)) (hb : GoodIn big b) : GoodIn big (c :: (a ++ b)) := fun w h => (List.mem_cons.mp h).elim (fun e => ha w (List.mem_cons.mpr (Or.inl e))) (fun h => (List.mem_append.mp h).elim (fun h => ha w (List.mem_cons.mpr (Or.inr h))) (hb w))
theorem goodIn_sub {big ws : List Cond} (hm : ∀ w ∈ ws, w ∈ big) (h : ws.all goodWord = true) : GoodIn big ws := fun w hw => ⟨hm w hw, good_of_word (List.all_eq_true.mp h w hw)⟩
/-! ===== END ===== -/

/-! ===== BEGIN printed: names, fields, word lists, decode rows ===== -/
def RX0 : String := "TankChain$Custom"
def TX0 : u_T := fun k => match k with
  | 0 => ("TankChain$Custom", "firsts", "[I", true)
  | 1 => ("TankChain$Custom", "firstsThere", "I", false)
  | 2 => ("TankChain$Custom", "near", "I", false)
  | 3 => ("TankChain$Custom", "hold", "I", false)
  | 4 => ("TankChain$Custom", "fair", "Z", false)
  | _ => ("TankChain$Custom", "statements", "I", false)
def tyX0 : Nat → FieldType := fun k => match k with
  | 0 => .array .int
  | 1 => .int
  | 2 => .int
  | 3 => .int
  | 4 => .boolean
  | _ => .int
abbrev wsX00 : List Cond := u_ws RX0 TX0 6
theorem nmX0 : ∀ a, a < 6 → ∀ b, b < 6 → a ≠ b → (TX0 a).2.1 ≠ (TX0 b).2.1 := by decide +kernel
theorem tyX0_ok : ∀ k, k < 6 → parseFieldDescriptor (TX0 k).2.2.1 = some (tyX0 k) := by decide +kernel
abbrev cX0_init : ByteArray := prog_2_method_1_code
def yX0_init : MethodName := ⟨RX0, "<init>", "()V"⟩
abbrev cX0_clear : ByteArray := prog_2_method_2_code
def yX0_clear : MethodName := ⟨RX0, "clear", "()V"⟩
abbrev cX0_becomeAs : ByteArray := prog_2_method_3_code
def yX0_becomeAs : MethodName := ⟨RX0, "becomeAs", "(LTankChain$Custom;)V"⟩
abbrev cX0_addFirst : ByteArray := prog_2_method_4_code
def yX0_addFirst : MethodName := ⟨RX0, "addFirst", "(I)V"⟩
abbrev cX0_isAhead : ByteArray := prog_2_method_5_code
def yX0_isAhead : MethodName := ⟨RX0, "isAhead", "(LTankChain$Field;LTankChain$Field;)Z"⟩
abbrev cX0_rank : ByteArray := prog_2_method_6_code
def yX0_rank : MethodName := ⟨RX0, "rank", "(LTankChain$Field;I)I"⟩
def RX1 : String := "TankChain$Field"
def TX1 : u_T := fun k => match k with
  | 0 => ("TankChain$Field", "number", "I", true)
  | 1 => ("TankChain$Field", "tank", "I", true)
  | 2 => ("TankChain$Field", "far", "I", true)
  | 3 => ("TankChain$Field", "area", "I", true)
  | 4 => ("TankChain$Field", "owner", "I", true)
  | 5 => ("TankChain$Field", "temple", "Z", true)
  | 6 => ("TankChain$Field", "next", "LTankChain$Field;", false)
  | 7 => ("TankChain$Field", "share", "I", false)
  | 8 => ("TankChain$Field", "remainder", "I", false)
  | 9 => ("TankChain$Field", "daysFed", "I", false)
  | 10 => ("TankChain$Field", "gotEver", "I", false)
  | _ => ("TankChain$Field", "gotLately", "I", false)
def tyX1 : Nat → FieldType := fun k => match k with
  | 0 => .int
  | 1 => .int
  | 2 => .int
  | 3 => .int
  | 4 => .int
  | 5 => .boolean
  | 6 => .object "TankChain$Field"
  | 7 => .int
  | 8 => .int
  | 9 => .int
  | 10 => .int
  | _ => .int
abbrev wsX10 : List Cond := u_ws RX1 TX1 12
theorem nmX1 : ∀ a, a < 12 → ∀ b, b < 12 → a ≠ b → (TX1 a).2.1 ≠ (TX1 b).2.1 := by decide +kernel
theorem tyX1_ok : ∀ k, k < 12 → parseFieldDescriptor (TX1 k).2.2.1 = some (tyX1 k) := by decide +kernel
abbrev cX1_init : ByteArray := prog_3_method_1_code
def yX1_init : MethodName := ⟨RX1, "<init>", "(IIIIIZ)V"⟩
abbrev cX1_isFed : ByteArray := prog_3_method_2_code
def yX1_isFed : MethodName := ⟨RX1, "isFed", "()Z"⟩
abbrev cX1_keepShare : ByteArray := prog_3_method_3_code
def yX1_keepShare : MethodName := ⟨RX1, "keepShare", "()V"⟩
def RX2 : String := "TankChain$Flow"
def TX2 : u_T := fun k => match k with
  | 0 => ("TankChain$Flow", "head", "LTankChain$Tank;", true)
  | 1 => ("TankChain$Flow", "custom", "LTankChain$Custom;", true)
  | 2 => ("TankChain$Flow", "sums", "LTankChain$Sums;", true)
  | _ => ("TankChain$Flow", "areasFed", "I", false)
def tyX2 : Nat → FieldType := fun k => match k with
  | 0 => .object "TankChain$Tank"
  | 1 => .object "TankChain$Custom"
  | 2 => .object "TankChain$Sums"
  | _ => .int
abbrev wsX20 : List Cond := u_ws RX2 TX2 4
theorem nmX2 : ∀ a, a < 4 → ∀ b, b < 4 → a ≠ b → (TX2 a).2.1 ≠ (TX2 b).2.1 := by decide +kernel
theorem tyX2_ok : ∀ k, k < 4 → parseFieldDescriptor (TX2 k).2.2.1 = some (tyX2 k) := by decide +kernel
abbrev cX2_init : ByteArray := prog_4_method_1_code
def yX2_init : MethodName := ⟨RX2, "<init>", "(LTankChain$Tank;LTankChain$Custom;)V"⟩
abbrev cX2_startFromNow : ByteArray := prog_4_method_2_code
def yX2_startFromNow : MethodName := ⟨RX2, "startFromNow", "()V"⟩
abbrev cX2_passDay : ByteArray := prog_4_method_3_code
def yX2_passDay : MethodName := ⟨RX2, "passDay", "(I)V"⟩
abbrev cX2_sentDown : ByteArray := prog_4_method_4_code
def yX2_sentDown : MethodName := ⟨RX2, "sentDown", "(LTankChain$Tank;II)I"⟩
abbrev cX2_takenByFields : ByteArray := prog_4_method_5_code
def yX2_takenByFields : MethodName := ⟨RX2, "takenByFields", "(LTankChain$Tank;I)I"⟩
abbrev cX2_areasWithin : ByteArray := prog_4_method_6_code
def yX2_areasWithin : MethodName := ⟨RX2, "areasWithin", "(LTankChain$Tank;I)I"⟩
abbrev cX2_shareInOrder : ByteArray := prog_4_method_7_code
def yX2_shareInOrder : MethodName := ⟨RX2, "shareInOrder", "(LTankChain$Tank;II)V"⟩
abbrev cX2_shareFairly : ByteArray := prog_4_method_8_code
def yX2_shareFairly : MethodName := ⟨RX2, "shareFairly", "(LTankChain$Tank;III)V"⟩
abbrev cX2_giveOneMore : ByteArray := prog_4_method_9_code
def yX2_giveOneMore : MethodName := ⟨RX2, "giveOneMore", "(LTankChain$Tank;)V"⟩
def RX3 : String := "TankChain$Pool"
def TX3 : u_T := fun k => match k with
  | 0 => ("TankChain$Pool", "water", "I", false)
  | 1 => ("TankChain$Pool", "opening", "I", false)
  | 2 => ("TankChain$Pool", "breached", "Z", false)
  | 3 => ("TankChain$Pool", "taken", "I", false)
  | _ => ("TankChain$Pool", "spilt", "I", false)
def tyX3 : Nat → FieldType := fun k => match k with
  | 0 => .int
  | 1 => .int
  | 2 => .boolean
  | 3 => .int
  | _ => .int
abbrev wsX30 : List Cond := u_ws RX3 TX3 5
theorem nmX3 : ∀ a, a < 5 → ∀ b, b < 5 → a ≠ b → (TX3 a).2.1 ≠ (TX3 b).2.1 := by decide +kernel
theorem tyX3_ok : ∀ k, k < 5 → parseFieldDescriptor (TX3 k).2.2.1 = some (tyX3 k) := by decide +kernel
abbrev cX3_init : ByteArray := prog_5_method_1_code
def yX3_init : MethodName := ⟨RX3, "<init>", "()V"⟩
abbrev cX3_becomeAs : ByteArray := prog_5_method_2_code
def yX3_becomeAs : MethodName := ⟨RX3, "becomeAs", "(LTankChain$Pool;)V"⟩
def RX4 : String := "TankChain$Sums"
def TX4 : u_T := fun k => match k with
  | 0 => ("TankChain$Sums", "rained", "I", false)
  | 1 => ("TankChain$Sums", "seeped", "I", false)
  | 2 => ("TankChain$Sums", "kept", "I", false)
  | _ => ("TankChain$Sums", "out", "I", false)
def tyX4 : Nat → FieldType := fun k => match k with
  | 0 => .int
  | 1 => .int
  | 2 => .int
  | _ => .int
abbrev wsX40 : List Cond := u_ws RX4 TX4 4
theorem nmX4 : ∀ a, a < 4 → ∀ b, b < 4 → a ≠ b → (TX4 a).2.1 ≠ (TX4 b).2.1 := by decide +kernel
theorem tyX4_ok : ∀ k, k < 4 → parseFieldDescriptor (TX4 k).2.2.1 = some (tyX4 k) := by decide +kernel
abbrev cX4_init : ByteArray := prog_6_method_1_code
def yX4_init : MethodName := ⟨RX4, "<init>", "()V"⟩
abbrev cX4_clear : ByteArray := prog_6_method_2_code
def yX4_clear : MethodName := ⟨RX4, "clear", "()V"⟩
abbrev cX4_addAll : ByteArray := prog_6_method_3_code
def yX4_addAll : MethodName := ⟨RX4, "addAll", "(LTankChain$Sums;)V"⟩
def RX5 : String := "TankChain$Tank"
def TX5 : u_T := fun k => match k with
  | 0 => ("TankChain$Tank", "number", "I", true)
  | 1 => ("TankChain$Tank", "below", "LTankChain$Tank;", true)
  | 2 => ("TankChain$Tank", "now", "LTankChain$Pool;", true)
  | 3 => ("TankChain$Tank", "after", "LTankChain$Pool;", true)
  | 4 => ("TankChain$Tank", "catches", "I", false)
  | 5 => ("TankChain$Tank", "size", "I", false)
  | 6 => ("TankChain$Tank", "bank", "I", false)
  | 7 => ("TankChain$Tank", "silt", "I", false)
  | 8 => ("TankChain$Tank", "breachedOn", "I", false)
  | _ => ("TankChain$Tank", "firstField", "LTankChain$Field;", false)
def tyX5 : Nat → FieldType := fun k => match k with
  | 0 => .int
  | 1 => .object "TankChain$Tank"
  | 2 => .object "TankChain$Pool"
  | 3 => .object "TankChain$Pool"
  | 4 => .int
  | 5 => .int
  | 6 => .int
  | 7 => .int
  | 8 => .int
  | _ => .object "TankChain$Field"
abbrev wsX50 : List Cond := u_ws RX5 TX5 10
theorem nmX5 : ∀ a, a < 10 → ∀ b, b < 10 → a ≠ b → (TX5 a).2.1 ≠ (TX5 b).2.1 := by decide +kernel
theorem tyX5_ok : ∀ k, k < 10 → parseFieldDescriptor (TX5 k).2.2.1 = some (tyX5 k) := by decide +kernel
abbrev cX5_init : ByteArray := prog_7_method_1_code
def yX5_init : MethodName := ⟨RX5, "<init>", "(ILTankChain$Tank;)V"⟩
abbrev cX5_roomIf : ByteArray := prog_7_method_2_code
def yX5_roomIf : MethodName := ⟨RX5, "roomIf", "(Z)I"⟩
abbrev cX5_isBadYearWith : ByteArray := prog_7_method_3_code
def yX5_isBadYearWith : MethodName := ⟨RX5, "isBadYearWith", "(I)Z"⟩
abbrev cX5_putInOrder : ByteArray := prog_7_method_4_code
def yX5_putInOrder : MethodName := ⟨RX5, "putInOrder", "(LTankChain$Field;LTankChain$Custom;)V"⟩
def RX6 : String := "TankChain$Tape"
def TX6 : u_T := fun k => match k with
  | 0 => ("TankChain$Tape", "bytes", "[B", true)
  | 1 => ("TankChain$Tape", "held", "I", false)
  | 2 => ("TankChain$Tape", "length", "I", false)
  | 3 => ("TankChain$Tape", "kind", "I", false)
  | 4 => ("TankChain$Tape", "begin", "I", false)
  | _ => ("TankChain$Tape", "end", "I", false)
def tyX6 : Nat → FieldType := fun k => match k with
  | 0 => .array .byte
  | 1 => .int
  | 2 => .int
  | 3 => .int
  | 4 => .int
  | _ => .int
abbrev wsX60 : List Cond := u_ws RX6 TX6 6
theorem nmX6 : ∀ a, a < 6 → ∀ b, b < 6 → a ≠ b → (TX6 a).2.1 ≠ (TX6 b).2.1 := by decide +kernel
theorem tyX6_ok : ∀ k, k < 6 → parseFieldDescriptor (TX6 k).2.2.1 = some (tyX6 k) := by decide +kernel
abbrev cX6_init : ByteArray := prog_8_method_1_code
def yX6_init : MethodName := ⟨RX6, "<init>", "()V"⟩
abbrev cX6_putFour : ByteArray := prog_8_method_2_code
def yX6_putFour : MethodName := ⟨RX6, "putFour", "(I)V"⟩
abbrev cX6_putByte : ByteArray := prog_8_method_3_code
def yX6_putByte : MethodName := ⟨RX6, "putByte", "(I)V"⟩
abbrev cX6_faultReading : ByteArray := prog_8_method_4_code
def yX6_faultReading : MethodName := ⟨RX6, "faultReading", "(LTankChain$Custom;I)I"⟩
abbrev cX6_readStatement : ByteArray := prog_8_method_5_code
def yX6_readStatement : MethodName := ⟨RX6, "readStatement", "(LTankChain$Custom;)Z"⟩
abbrev cX6_readFirst : ByteArray := prog_8_method_6_code
def yX6_readFirst : MethodName := ⟨RX6, "readFirst", "(LTankChain$Custom;)Z"⟩
abbrev cX6_isWord : ByteArray := prog_8_method_7_code
def yX6_isWord : MethodName := ⟨RX6, "isWord", "(Ljava/lang/String;)Z"⟩
abbrev cX6_numberHere : ByteArray := prog_8_method_8_code
def yX6_numberHere : MethodName := ⟨RX6, "numberHere", "()I"⟩
abbrev cX6_nextToken : ByteArray := prog_8_method_9_code
def yX6_nextToken : MethodName := ⟨RX6, "nextToken", "()V"⟩
abbrev cX6_byteAt : ByteArray := prog_8_method_10_code
def yX6_byteAt : MethodName := ⟨RX6, "byteAt", "(I)I"⟩
abbrev cX6_isBlank : ByteArray := prog_8_method_11_code
def yX6_isBlank : MethodName := ⟨RX6, "isBlank", "(I)Z"⟩
abbrev cX6_isLetter : ByteArray := prog_8_method_12_code
def yX6_isLetter : MethodName := ⟨RX6, "isLetter", "(I)Z"⟩
abbrev cX6_isDigit : ByteArray := prog_8_method_13_code
def yX6_isDigit : MethodName := ⟨RX6, "isDigit", "(I)Z"⟩
def RX7 : String := "TankChain"
def TX7 : u_T := fun k => match k with
  | 0 => ("TankChain", "tanks", "[LTankChain$Tank;", true)
  | 1 => ("TankChain", "fields", "[LTankChain$Field;", true)
  | 2 => ("TankChain", "tape", "LTankChain$Tape;", true)
  | 3 => ("TankChain", "inForce", "LTankChain$Custom;", true)
  | 4 => ("TankChain", "draft", "LTankChain$Custom;", true)
  | 5 => ("TankChain", "flow", "LTankChain$Flow;", true)
  | 6 => ("TankChain", "ever", "LTankChain$Sums;", true)
  | 7 => ("TankChain", "fieldsThere", "I", false)
  | 8 => ("TankChain", "daysGone", "I", false)
  | 9 => ("TankChain", "lastRain", "I", false)
  | 10 => ("TankChain", "waterTold", "I", false)
  | 11 => ("TankChain", "faultPlace", "I", false)
  | 12 => ("TankChain", "breachDay", "I", false)
  | 13 => ("TankChain", "breachFirst", "I", false)
  | _ => ("TankChain", "breachTanks", "I", false)
def tyX7 : Nat → FieldType := fun k => match k with
  | 0 => .array (.object "TankChain$Tank")
  | 1 => .array (.object "TankChain$Field")
  | 2 => .object "TankChain$Tape"
  | 3 => .object "TankChain$Custom"
  | 4 => .object "TankChain$Custom"
  | 5 => .object "TankChain$Flow"
  | 6 => .object "TankChain$Sums"
  | 7 => .int
  | 8 => .int
  | 9 => .int
  | 10 => .int
  | 11 => .int
  | 12 => .int
  | 13 => .int
  | _ => .int
abbrev wsX70 : List Cond := u_ws RX7 TX7 15
theorem nmX7 : ∀ a, a < 15 → ∀ b, b < 15 → a ≠ b → (TX7 a).2.1 ≠ (TX7 b).2.1 := by decide +kernel
theorem tyX7_ok : ∀ k, k < 15 → parseFieldDescriptor (TX7 k).2.2.1 = some (tyX7 k) := by decide +kernel
abbrev cX7_init : ByteArray := prog_1_method_1_code
def yX7_init : MethodName := ⟨RX7, "<init>", "(I)V"⟩
abbrev cX7_tank : ByteArray := prog_1_method_2_code
def yX7_tank : MethodName := ⟨RX7, "tank", "(IIII)Z"⟩
abbrev cX7_water : ByteArray := prog_1_method_3_code
def yX7_water : MethodName := ⟨RX7, "water", "(II)Z"⟩
abbrev cX7_field : ByteArray := prog_1_method_4_code
def yX7_field : MethodName := ⟨RX7, "field", "(IIIIZ)I"⟩
abbrev cX7_open : ByteArray := prog_1_method_5_code
def yX7_open : MethodName := ⟨RX7, "open", "(II)Z"⟩
abbrev cX7_mend : ByteArray := prog_1_method_6_code
def yX7_mend : MethodName := ⟨RX7, "mend", "(II)Z"⟩
abbrev cX7_dredge : ByteArray := prog_1_method_7_code
def yX7_dredge : MethodName := ⟨RX7, "dredge", "(II)I"⟩
abbrev cX7_feed : ByteArray := prog_1_method_8_code
def yX7_feed : MethodName := ⟨RX7, "feed", "(IIIII)I"⟩
abbrev cX7_custom : ByteArray := prog_1_method_9_code
def yX7_custom : MethodName := ⟨RX7, "custom", "(I)I"⟩
abbrev cX7_fault : ByteArray := prog_1_method_10_code
def yX7_fault : MethodName := ⟨RX7, "fault", "()I"⟩
abbrev cX7_day : ByteArray := prog_1_method_11_code
def yX7_day : MethodName := ⟨RX7, "day", "(I)I"⟩
abbrev cX7_told : ByteArray := prog_1_method_12_code
def yX7_told : MethodName := ⟨RX7, "told", "(II)I"⟩
abbrev cX7_fieldOf : ByteArray := prog_1_method_13_code
def yX7_fieldOf : MethodName := ⟨RX7, "fieldOf", "(II)I"⟩
abbrev cX7_order : ByteArray := prog_1_method_14_code
def yX7_order : MethodName := ⟨RX7, "order", "(II)I"⟩
abbrev cX7_owner : ByteArray := prog_1_method_15_code
def yX7_owner : MethodName := ⟨RX7, "owner", "(I)I"⟩
abbrev cX7_tried : ByteArray := prog_1_method_16_code
def yX7_tried : MethodName := ⟨RX7, "tried", "(III)I"⟩
abbrev cX7_lost : ByteArray := prog_1_method_17_code
def yX7_lost : MethodName := ⟨RX7, "lost", "(IIII)I"⟩
abbrev cX7_most : ByteArray := prog_1_method_18_code
def yX7_most : MethodName := ⟨RX7, "most", "(IIIII)I"⟩
abbrev cX7_breach : ByteArray := prog_1_method_19_code
def yX7_breach : MethodName := ⟨RX7, "breach", "(I)I"⟩
abbrev cX7_count : ByteArray := prog_1_method_20_code
def yX7_count : MethodName := ⟨RX7, "count", "(I)I"⟩
abbrev cX7_isWithin : ByteArray := prog_1_method_21_code
def yX7_isWithin : MethodName := ⟨RX7, "isWithin", "(III)Z"⟩
abbrev cX7_asNumber : ByteArray := prog_1_method_22_code
def yX7_asNumber : MethodName := ⟨RX7, "asNumber", "(Z)I"⟩
abbrev cX7_mayTry : ByteArray := prog_1_method_23_code
def yX7_mayTry : MethodName := ⟨RX7, "mayTry", "(II)Z"⟩
abbrev cX7_tankAt : ByteArray := prog_1_method_24_code
def yX7_tankAt : MethodName := ⟨RX7, "tankAt", "(I)LTankChain$Tank;"⟩
abbrev cX7_fieldAt : ByteArray := prog_1_method_25_code
def yX7_fieldAt : MethodName := ⟨RX7, "fieldAt", "(I)LTankChain$Field;"⟩
abbrev cX7_allWater : ByteArray := prog_1_method_26_code
def yX7_allWater : MethodName := ⟨RX7, "allWater", "()I"⟩
abbrev cX7_orderAnew : ByteArray := prog_1_method_27_code
def yX7_orderAnew : MethodName := ⟨RX7, "orderAnew", "()V"⟩
abbrev cX7_addSilt : ByteArray := prog_1_method_28_code
def yX7_addSilt : MethodName := ⟨RX7, "addSilt", "()V"⟩
abbrev cX7_keepTanks : ByteArray := prog_1_method_29_code
def yX7_keepTanks : MethodName := ⟨RX7, "keepTanks", "()V"⟩
abbrev cX7_keepFields : ByteArray := prog_1_method_30_code
def yX7_keepFields : MethodName := ⟨RX7, "keepFields", "()V"⟩
abbrev cX7_waterTried : ByteArray := prog_1_method_31_code
def yX7_waterTried : MethodName := ⟨RX7, "waterTried", "(LTankChain$Tank;LTankChain$Tank;II)I"⟩
abbrev cX7_areasFedBy : ByteArray := prog_1_method_32_code
def yX7_areasFedBy : MethodName := ⟨RX7, "areasFedBy", "(IIIII)I"⟩
abbrev cX7_openingIn : ByteArray := prog_1_method_33_code
def yX7_openingIn : MethodName := ⟨RX7, "openingIn", "(II)I"⟩
def RX8 : String := "TankChainModel"
def TX8 : u_T := fun k => match k with
  | 0 => ("TankChainModel", "tanks", "I", true)
  | 1 => ("TankChainModel", "day", "I", false)
  | 2 => ("TankChainModel", "rain", "I", false)
  | 3 => ("TankChainModel", "fields", "I", false)
  | 4 => ("TankChainModel", "catches", "[I", true)
  | 5 => ("TankChainModel", "size", "[I", true)
  | 6 => ("TankChainModel", "bank", "[I", true)
  | 7 => ("TankChainModel", "water", "[I", true)
  | 8 => ("TankChainModel", "opening", "[I", true)
  | 9 => ("TankChainModel", "silt", "[I", true)
  | 10 => ("TankChainModel", "taken", "[I", true)
  | 11 => ("TankChainModel", "spilt", "[I", true)
  | 12 => ("TankChainModel", "breachedOn", "[I", true)
  | 13 => ("TankChainModel", "isBreached", "[Z", true)
  | 14 => ("TankChainModel", "fieldTank", "[I", true)
  | 15 => ("TankChainModel", "far", "[I", true)
  | 16 => ("TankChainModel", "area", "[I", true)
  | 17 => ("TankChainModel", "owner", "[I", true)
  | 18 => ("TankChainModel", "daysFed", "[I", true)
  | 19 => ("TankChainModel", "allGot", "[I", true)
  | 20 => ("TankChainModel", "lastGot", "[I", true)
  | 21 => ("TankChainModel", "isTemple", "[Z", true)
  | 22 => ("TankChainModel", "owners", "[I", true)
  | 23 => ("TankChainModel", "out", "I", false)
  | 24 => ("TankChainModel", "seeped", "I", false)
  | 25 => ("TankChainModel", "kept", "I", false)
  | 26 => ("TankChainModel", "rained", "I", false)
  | 27 => ("TankChainModel", "toldMore", "I", false)
  | 28 => ("TankChainModel", "firstBreach", "I", false)
  | 29 => ("TankChainModel", "breaches", "I", false)
  | 30 => ("TankChainModel", "breachDay", "I", false)
  | 31 => ("TankChainModel", "tape", "[B", true)
  | 32 => ("TankChainModel", "text", "[B", true)
  | 33 => ("TankChainModel", "taped", "I", false)
  | 34 => ("TankChainModel", "place", "I", false)
  | 35 => ("TankChainModel", "end", "I", false)
  | 36 => ("TankChainModel", "fault", "I", false)
  | 37 => ("TankChainModel", "told", "[I", true)
  | 38 => ("TankChainModel", "hasCustom", "Z", false)
  | 39 => ("TankChainModel", "wordEnd", "I", false)
  | 40 => ("TankChainModel", "number", "I", false)
  | 41 => ("TankChainModel", "row", "[I", true)
  | 42 => ("TankChainModel", "got", "[I", true)
  | 43 => ("TankChainModel", "hasMore", "[Z", true)
  | 44 => ("TankChainModel", "triedWater", "[I", true)
  | 45 => ("TankChainModel", "triedOpening", "[I", true)
  | _ => ("TankChainModel", "triedBreach", "[Z", true)
def tyX8 : Nat → FieldType := fun k => match k with
  | 0 => .int
  | 1 => .int
  | 2 => .int
  | 3 => .int
  | 4 => .array .int
  | 5 => .array .int
  | 6 => .array .int
  | 7 => .array .int
  | 8 => .array .int
  | 9 => .array .int
  | 10 => .array .int
  | 11 => .array .int
  | 12 => .array .int
  | 13 => .array .boolean
  | 14 => .array .int
  | 15 => .array .int
  | 16 => .array .int
  | 17 => .array .int
  | 18 => .array .int
  | 19 => .array .int
  | 20 => .array .int
  | 21 => .array .boolean
  | 22 => .array .int
  | 23 => .int
  | 24 => .int
  | 25 => .int
  | 26 => .int
  | 27 => .int
  | 28 => .int
  | 29 => .int
  | 30 => .int
  | 31 => .array .byte
  | 32 => .array .byte
  | 33 => .int
  | 34 => .int
  | 35 => .int
  | 36 => .int
  | 37 => .array .int
  | 38 => .boolean
  | 39 => .int
  | 40 => .int
  | 41 => .array .int
  | 42 => .array .int
  | 43 => .array .boolean
  | 44 => .array .int
  | 45 => .array .int
  | _ => .array .boolean
abbrev wsX80 : List Cond := u_ws RX8 TX8 47
theorem nmX8 : ∀ a, a < 47 → ∀ b, b < 47 → a ≠ b → (TX8 a).2.1 ≠ (TX8 b).2.1 := by decide +kernel
theorem tyX8_ok : ∀ k, k < 47 → parseFieldDescriptor (TX8 k).2.2.1 = some (tyX8 k) := by decide +kernel
abbrev cX8_init : ByteArray := prog_10_method_1_code
def yX8_init : MethodName := ⟨RX8, "<init>", "(I)V"⟩
abbrev cX8_isIn : ByteArray := prog_10_method_2_code
def yX8_isIn : MethodName := ⟨RX8, "isIn", "(III)Z"⟩
abbrev cX8_one : ByteArray := prog_10_method_3_code
def yX8_one : MethodName := ⟨RX8, "one", "(Z)I"⟩
abbrev cX8_isTank : ByteArray := prog_10_method_4_code
def yX8_isTank : MethodName := ⟨RX8, "isTank", "(I)Z"⟩
abbrev cX8_tank : ByteArray := prog_10_method_5_code
def yX8_tank : MethodName := ⟨RX8, "tank", "(IIII)Z"⟩
abbrev cX8_room : ByteArray := prog_10_method_6_code
def yX8_room : MethodName := ⟨RX8, "room", "(IZ)I"⟩
abbrev cX8_water : ByteArray := prog_10_method_7_code
def yX8_water : MethodName := ⟨RX8, "water", "(II)Z"⟩
abbrev cX8_field : ByteArray := prog_10_method_8_code
def yX8_field : MethodName := ⟨RX8, "field", "(IIIIZ)I"⟩
abbrev cX8_open : ByteArray := prog_10_method_9_code
def yX8_open : MethodName := ⟨RX8, "open", "(II)Z"⟩
abbrev cX8_mend : ByteArray := prog_10_method_10_code
def yX8_mend : MethodName := ⟨RX8, "mend", "(II)Z"⟩
abbrev cX8_dredge : ByteArray := prog_10_method_11_code
def yX8_dredge : MethodName := ⟨RX8, "dredge", "(II)I"⟩
abbrev cX8_custom : ByteArray := prog_10_method_12_code
def yX8_custom : MethodName := ⟨RX8, "custom", "(II)I"⟩
abbrev cX8_feed : ByteArray := prog_10_method_13_code
def yX8_feed : MethodName := ⟨RX8, "feed", "(IIIII)I"⟩
abbrev cX8_four : ByteArray := prog_10_method_14_code
def yX8_four : MethodName := ⟨RX8, "four", "(I)V"⟩
abbrev cX8_blanks : ByteArray := prog_10_method_15_code
def yX8_blanks : MethodName := ⟨RX8, "blanks", "()V"⟩
abbrev cX8_word : ByteArray := prog_10_method_16_code
def yX8_word : MethodName := ⟨RX8, "word", "()J"⟩
abbrev cX8_takes : ByteArray := prog_10_method_17_code
def yX8_takes : MethodName := ⟨RX8, "takes", "(J)Z"⟩
abbrev cX8_takesNumber : ByteArray := prog_10_method_18_code
def yX8_takesNumber : MethodName := ⟨RX8, "takesNumber", "()Z"⟩
abbrev cX8_statement : ByteArray := prog_10_method_19_code
def yX8_statement : MethodName := ⟨RX8, "statement", "()Z"⟩
abbrev cX8_custom_ : ByteArray := prog_10_method_20_code
def yX8_custom_ : MethodName := ⟨RX8, "custom", "(I)I"⟩
abbrev cX8_fault : ByteArray := prog_10_method_21_code
def yX8_fault : MethodName := ⟨RX8, "fault", "()I"⟩
abbrev cX8_isAhead : ByteArray := prog_10_method_22_code
def yX8_isAhead : MethodName := ⟨RX8, "isAhead", "(II)Z"⟩
abbrev cX8_ordered : ByteArray := prog_10_method_23_code
def yX8_ordered : MethodName := ⟨RX8, "ordered", "(I)I"⟩
abbrev cX8_order : ByteArray := prog_10_method_24_code
def yX8_order : MethodName := ⟨RX8, "order", "(II)I"⟩
abbrev cX8_isBad : ByteArray := prog_10_method_25_code
def yX8_isBad : MethodName := ⟨RX8, "isBad", "(II)Z"⟩
abbrev cX8_gives : ByteArray := prog_10_method_26_code
def yX8_gives : MethodName := ⟨RX8, "gives", "(III)I"⟩
abbrev cX8_flows : ByteArray := prog_10_method_27_code
def yX8_flows : MethodName := ⟨RX8, "flows", "([I[Z[IIZ)I"⟩
abbrev cX8_day : ByteArray := prog_10_method_28_code
def yX8_day : MethodName := ⟨RX8, "day", "(I)I"⟩
abbrev cX8_told : ByteArray := prog_10_method_29_code
def yX8_told : MethodName := ⟨RX8, "told", "(II)I"⟩
abbrev cX8_fieldOf : ByteArray := prog_10_method_30_code
def yX8_fieldOf : MethodName := ⟨RX8, "fieldOf", "(II)I"⟩
abbrev cX8_owner : ByteArray := prog_10_method_31_code
def yX8_owner : MethodName := ⟨RX8, "owner", "(I)I"⟩
abbrev cX8_tries : ByteArray := prog_10_method_32_code
def yX8_tries : MethodName := ⟨RX8, "tries", "(II)I"⟩
abbrev cX8_openings : ByteArray := prog_10_method_33_code
def yX8_openings : MethodName := ⟨RX8, "openings", "()V"⟩
abbrev cX8_isTrial : ByteArray := prog_10_method_34_code
def yX8_isTrial : MethodName := ⟨RX8, "isTrial", "(II)Z"⟩
abbrev cX8_tried : ByteArray := prog_10_method_35_code
def yX8_tried : MethodName := ⟨RX8, "tried", "(III)I"⟩
abbrev cX8_lost : ByteArray := prog_10_method_36_code
def yX8_lost : MethodName := ⟨RX8, "lost", "(IIII)I"⟩
abbrev cX8_most : ByteArray := prog_10_method_37_code
def yX8_most : MethodName := ⟨RX8, "most", "(IIIII)I"⟩
abbrev cX8_breach : ByteArray := prog_10_method_38_code
def yX8_breach : MethodName := ⟨RX8, "breach", "(I)I"⟩
abbrev cX8_count : ByteArray := prog_10_method_39_code
def yX8_count : MethodName := ⟨RX8, "count", "(I)I"⟩
def RJ9 : String := "java/lang/Math"
def TJ9 : u_T := fun k => match k with
  | _ => ("", "", "", false)
def tyJ9 : Nat → FieldType := fun k => match k with
  | _ => .int
abbrev wsJ90 : List Cond := u_ws RJ9 TJ9 0
theorem nmJ9 : ∀ a, a < 0 → ∀ b, b < 0 → a ≠ b → (TJ9 a).2.1 ≠ (TJ9 b).2.1 := by decide +kernel
theorem tyJ9_ok : ∀ k, k < 0 → parseFieldDescriptor (TJ9 k).2.2.1 = some (tyJ9 k) := by decide +kernel
abbrev cJ9_max_7cf53 : ByteArray := prog_11_method_65_code
def yJ9_max_7cf53 : MethodName := ⟨RJ9, "max", "(II)I"⟩
abbrev cJ9_min_7cf53 : ByteArray := prog_11_method_69_code
def yJ9_min_7cf53 : MethodName := ⟨RJ9, "min", "(II)I"⟩
def RJ0 : String := "java/lang/String"
def TJ0 : u_T := fun k => match k with
  | _ => ("", "", "", false)
def tyJ0 : Nat → FieldType := fun k => match k with
  | _ => .int
abbrev wsJ00 : List Cond := u_ws RJ0 TJ0 0
theorem nmJ0 : ∀ a, a < 0 → ∀ b, b < 0 → a ≠ b → (TJ0 a).2.1 ≠ (TJ0 b).2.1 := by decide +kernel
theorem tyJ0_ok : ∀ k, k < 0 → parseFieldDescriptor (TJ0 k).2.2.1 = some (tyJ0 k) := by decide +kernel
abbrev cJ0_length_8abf5 : ByteArray := prog_12_method_54_code
def yJ0_length_8abf5 : MethodName := ⟨RJ0, "length", "()I"⟩
abbrev cJ0_charAt_5068e : ByteArray := prog_12_method_56_code
def yJ0_charAt_5068e : MethodName := ⟨RJ0, "charAt", "(I)C"⟩
abbrev cJ0_coder_7d493 : ByteArray := prog_12_method_152_code
def yJ0_coder_7d493 : MethodName := ⟨RJ0, "coder", "()B"⟩
abbrev cJ0_isLatin1_aae02 : ByteArray := prog_12_method_154_code
def yJ0_isLatin1_aae02 : MethodName := ⟨RJ0, "isLatin1", "()Z"⟩
abbrev cJ0_checkIndex_df160 : ByteArray := prog_12_method_155_code
def yJ0_checkIndex_df160 : MethodName := ⟨RJ0, "checkIndex", "(II)V"⟩
def RJ1 : String := "java/lang/StringLatin1"
def TJ1 : u_T := fun k => match k with
  | _ => ("", "", "", false)
def tyJ1 : Nat → FieldType := fun k => match k with
  | _ => .int
abbrev wsJ10 : List Cond := u_ws RJ1 TJ1 0
theorem nmJ1 : ∀ a, a < 0 → ∀ b, b < 0 → a ≠ b → (TJ1 a).2.1 ≠ (TJ1 b).2.1 := by decide +kernel
theorem tyJ1_ok : ∀ k, k < 0 → parseFieldDescriptor (TJ1 k).2.2.1 = some (tyJ1 k) := by decide +kernel
abbrev cJ1_charAt_3b067 : ByteArray := prog_13_method_2_code
def yJ1_charAt_3b067 : MethodName := ⟨RJ1, "charAt", "([BI)C"⟩
def RJ2 : String := "java/lang/StringUTF16"
def TJ2 : u_T := fun k => match k with
  | _ => ("", "", "", false)
def tyJ2 : Nat → FieldType := fun k => match k with
  | _ => .int
abbrev wsJ20 : List Cond := u_ws RJ2 TJ2 0
theorem nmJ2 : ∀ a, a < 0 → ∀ b, b < 0 → a ≠ b → (TJ2 a).2.1 ≠ (TJ2 b).2.1 := by decide +kernel
theorem tyJ2_ok : ∀ k, k < 0 → parseFieldDescriptor (TJ2 k).2.2.1 = some (tyJ2 k) := by decide +kernel
abbrev cJ2_getChar_3b067 : ByteArray := prog_14_method_5_code
def yJ2_getChar_3b067 : MethodName := ⟨RJ2, "getChar", "([BI)C"⟩
abbrev cJ2_length_9d52b : ByteArray := prog_14_method_6_code
def yJ2_length_9d52b : MethodName := ⟨RJ2, "length", "([B)I"⟩
abbrev cJ2_charAt_3b067 : ByteArray := prog_14_method_83_code
def yJ2_charAt_3b067 : MethodName := ⟨RJ2, "charAt", "([BI)C"⟩
abbrev cJ2_checkIndex_2214a : ByteArray := prog_14_method_91_code
def yJ2_checkIndex_2214a : MethodName := ⟨RJ2, "checkIndex", "(I[B)V"⟩
def RJ3 : String := "jdk/internal/util/Preconditions"
def TJ3 : u_T := fun k => match k with
  | _ => ("", "", "", false)
def tyJ3 : Nat → FieldType := fun k => match k with
  | _ => .int
abbrev wsJ30 : List Cond := u_ws RJ3 TJ3 0
theorem nmJ3 : ∀ a, a < 0 → ∀ b, b < 0 → a ≠ b → (TJ3 a).2.1 ≠ (TJ3 b).2.1 := by decide +kernel
theorem tyJ3_ok : ∀ k, k < 0 → parseFieldDescriptor (TJ3 k).2.2.1 = some (tyJ3 k) := by decide +kernel
abbrev cJ3_checkIndex_8e157 : ByteArray := prog_15_method_11_code
def yJ3_checkIndex_8e157 : MethodName := ⟨RJ3, "checkIndex", "(IILjava/util/function/BiFunction;)I"⟩
def RL : String := "TankChainLaw"
abbrev cL_cell : ByteArray := method_2_code
def yL_cell : MethodName := ⟨RL, "cell", "([II)I"⟩
abbrev cL_law : ByteArray := code
def yL_law : MethodName := ⟨RL, "law", "([I)Z"⟩
def wsL_cell : List Cond := .code yL_cell cL_cell 2 (some .int) :: ([])
def wsL_law_r1 : List Cond := [Cond.classLink RL 7 RX7, Cond.instantiable RX7 15, Cond.initialized RX7, Cond.classLink RL 18 RX8, Cond.instantiable RX8 47, Cond.initialized RX8, Cond.methodLink RL 9 yL_cell, Cond.static yL_cell, Cond.initialized RL, Cond.code yL_cell cL_cell 2 (some .int), Cond.methodLink RL 15 yX7_init, Cond.instanceMethod yX7_init, Cond.code yX7_init cX7_init 5 none, Cond.methodLink RX7 1 objectInit, Cond.instanceMethod objectInit, Cond.code objectInit ⟨#[0xb1]⟩ 1 none, Cond.classLink RX7 9 RX1, Cond.fieldLink RX7 11 "TankChain" "fields" "[LTankChain$Field;", Cond.classLink RX7 15 RX6, Cond.instantiable RX6 6, Cond.initialized RX6, Cond.fieldLink RX7 18 "TankChain" "tape" "LTankChain$Tape;", Cond.classLink RX7 22 RX0, Cond.instantiable RX0 6]
def wsL_law_r2 : List Cond := [Cond.initialized RX0, Cond.fieldLink RX7 25 "TankChain" "inForce" "LTankChain$Custom;", Cond.fieldLink RX7 29 "TankChain" "draft" "LTankChain$Custom;", Cond.classLink RX7 32 RX4, Cond.instantiable RX4 4, Cond.initialized RX4, Cond.fieldLink RX7 35 "TankChain" "ever" "LTankChain$Sums;", Cond.fieldLink RX7 39 "TankChain" "fieldsThere" "I", Cond.fieldLink RX7 43 "TankChain" "daysGone" "I", Cond.fieldLink RX7 46 "TankChain" "lastRain" "I", Cond.fieldLink RX7 49 "TankChain" "waterTold" "I", Cond.fieldLink RX7 52 "TankChain" "faultPlace" "I", Cond.fieldLink RX7 55 "TankChain" "breachDay" "I", Cond.fieldLink RX7 58 "TankChain" "breachFirst" "I", Cond.fieldLink RX7 61 "TankChain" "breachTanks" "I", Cond.methodLink RX7 64 Lib.Math.min.name, Cond.static Lib.Math.min.name, Cond.initialized "java/lang/Math", Cond.code Lib.Math.min.name Lib.Math.min.code 2 (some .int), Cond.methodLink RX7 70 Lib.Math.max.name, Cond.static Lib.Math.max.name, Cond.code Lib.Math.max.name Lib.Math.max.code 2 (some .int), Cond.classLink RX7 73 RX5, Cond.fieldLink RX7 75 "TankChain" "tanks" "[LTankChain$Tank;"]
def wsL_law_r3 : List Cond := [Cond.instantiable RX5 10, Cond.initialized RX5, Cond.classLink RX7 82 RX2, Cond.instantiable RX2 4, Cond.initialized RX2, Cond.fieldLink RX7 87 "TankChain" "flow" "LTankChain$Flow;", Cond.instanceMethod yX6_init, Cond.code yX6_init cX6_init 1 none, Cond.methodLink RX6 3 objectInit, Cond.arrayClass .byte, Cond.fieldLink RX6 9 "TankChain$Tape" "bytes" "[B", Cond.fieldLink RX6 15 "TankChain$Tape" "held" "I", Cond.fieldLink RX6 19 "TankChain$Tape" "length" "I", Cond.fieldLink RX6 22 "TankChain$Tape" "kind" "I", Cond.fieldLink RX6 25 "TankChain$Tape" "begin" "I", Cond.fieldLink RX6 28 "TankChain$Tape" "end" "I", Cond.instanceMethod yX0_init, Cond.code yX0_init cX0_init 1 none, Cond.methodLink RX0 3 objectInit, Cond.arrayClass .int, Cond.fieldLink RX0 9 "TankChain$Custom" "firsts" "[I", Cond.fieldLink RX0 15 "TankChain$Custom" "firstsThere" "I", Cond.fieldLink RX0 19 "TankChain$Custom" "near" "I", Cond.fieldLink RX0 22 "TankChain$Custom" "hold" "I"]
def wsL_law_r4 : List Cond := [Cond.fieldLink RX0 25 "TankChain$Custom" "fair" "Z", Cond.fieldLink RX0 29 "TankChain$Custom" "statements" "I", Cond.instanceMethod yX4_init, Cond.code yX4_init cX4_init 1 none, Cond.methodLink RX4 1 objectInit, Cond.fieldLink RX4 7 "TankChain$Sums" "rained" "I", Cond.fieldLink RX4 13 "TankChain$Sums" "seeped" "I", Cond.fieldLink RX4 16 "TankChain$Sums" "kept" "I", Cond.fieldLink RX4 19 "TankChain$Sums" "out" "I", Cond.methodLink RX7 79 yX5_init, Cond.instanceMethod yX5_init, Cond.code yX5_init cX5_init 3 none, Cond.methodLink RX5 3 objectInit, Cond.classLink RX5 9 RX3, Cond.instantiable RX3 5, Cond.initialized RX3, Cond.fieldLink RX5 12 "TankChain$Tank" "now" "LTankChain$Pool;", Cond.fieldLink RX5 18 "TankChain$Tank" "after" "LTankChain$Pool;", Cond.fieldLink RX5 21 "TankChain$Tank" "catches" "I", Cond.fieldLink RX5 25 "TankChain$Tank" "size" "I", Cond.fieldLink RX5 28 "TankChain$Tank" "bank" "I", Cond.fieldLink RX5 31 "TankChain$Tank" "silt" "I", Cond.fieldLink RX5 34 "TankChain$Tank" "breachedOn" "I", Cond.fieldLink RX5 37 "TankChain$Tank" "firstField" "LTankChain$Field;"]
def wsL_law_r5 : List Cond := [Cond.fieldLink RX5 41 "TankChain$Tank" "number" "I", Cond.fieldLink RX5 44 "TankChain$Tank" "below" "LTankChain$Tank;", Cond.instanceMethod yX3_init, Cond.code yX3_init cX3_init 1 none, Cond.methodLink RX3 1 objectInit, Cond.fieldLink RX3 7 "TankChain$Pool" "water" "I", Cond.fieldLink RX3 13 "TankChain$Pool" "opening" "I", Cond.fieldLink RX3 16 "TankChain$Pool" "breached" "Z", Cond.fieldLink RX3 20 "TankChain$Pool" "taken" "I", Cond.fieldLink RX3 23 "TankChain$Pool" "spilt" "I", Cond.methodLink RX7 84 yX2_init, Cond.instanceMethod yX2_init, Cond.code yX2_init cX2_init 3 none, Cond.methodLink RX2 3 objectInit, Cond.classLink RX2 9 RX4, Cond.fieldLink RX2 12 "TankChain$Flow" "sums" "LTankChain$Sums;", Cond.fieldLink RX2 18 "TankChain$Flow" "areasFed" "I", Cond.fieldLink RX2 22 "TankChain$Flow" "head" "LTankChain$Tank;", Cond.fieldLink RX2 26 "TankChain$Flow" "custom" "LTankChain$Custom;", Cond.methodLink RL 20 yX8_init, Cond.instanceMethod yX8_init, Cond.code yX8_init cX8_init 3 none, Cond.methodLink RX8 1 objectInit, Cond.fieldLink RX8 7 "TankChainModel" "catches" "[I"]
def wsL_law_r6 : List Cond := [Cond.fieldLink RX8 13 "TankChainModel" "size" "[I", Cond.fieldLink RX8 16 "TankChainModel" "bank" "[I", Cond.fieldLink RX8 19 "TankChainModel" "water" "[I", Cond.fieldLink RX8 22 "TankChainModel" "opening" "[I", Cond.fieldLink RX8 25 "TankChainModel" "silt" "[I", Cond.fieldLink RX8 28 "TankChainModel" "taken" "[I", Cond.fieldLink RX8 31 "TankChainModel" "spilt" "[I", Cond.fieldLink RX8 34 "TankChainModel" "breachedOn" "[I", Cond.arrayClass .boolean, Cond.fieldLink RX8 37 "TankChainModel" "isBreached" "[Z", Cond.fieldLink RX8 41 "TankChainModel" "fieldTank" "[I", Cond.fieldLink RX8 44 "TankChainModel" "far" "[I", Cond.fieldLink RX8 47 "TankChainModel" "area" "[I", Cond.fieldLink RX8 50 "TankChainModel" "owner" "[I", Cond.fieldLink RX8 53 "TankChainModel" "daysFed" "[I", Cond.fieldLink RX8 56 "TankChainModel" "allGot" "[I", Cond.fieldLink RX8 59 "TankChainModel" "lastGot" "[I", Cond.fieldLink RX8 62 "TankChainModel" "isTemple" "[Z", Cond.fieldLink RX8 65 "TankChainModel" "owners" "[I", Cond.fieldLink RX8 68 "TankChainModel" "firstBreach" "I", Cond.fieldLink RX8 72 "TankChainModel" "breaches" "I", Cond.fieldLink RX8 75 "TankChainModel" "breachDay" "I", Cond.fieldLink RX8 78 "TankChainModel" "tape" "[B", Cond.fieldLink RX8 82 "TankChainModel" "text" "[B"]
def wsL_law_r7 : List Cond := [Cond.fieldLink RX8 85 "TankChainModel" "fault" "I", Cond.fieldLink RX8 88 "TankChainModel" "told" "[I", Cond.fieldLink RX8 91 "TankChainModel" "row" "[I", Cond.fieldLink RX8 94 "TankChainModel" "got" "[I", Cond.fieldLink RX8 97 "TankChainModel" "hasMore" "[Z", Cond.fieldLink RX8 100 "TankChainModel" "triedWater" "[I", Cond.fieldLink RX8 103 "TankChainModel" "triedOpening" "[I", Cond.fieldLink RX8 106 "TankChainModel" "triedBreach" "[Z", Cond.methodLink RX8 109 Lib.Math.min.name, Cond.methodLink RX8 115 Lib.Math.max.name, Cond.fieldLink RX8 118 "TankChainModel" "tanks" "I", Cond.methodLink RL 21 yX7_tank, Cond.instanceMethod yX7_tank, Cond.selects RX7 yX7_tank yX7_tank, Cond.code yX7_tank cX7_tank 7 (some .boolean), Cond.fieldLink RX7 99 "TankChain$Tank" "catches" "I", Cond.fieldLink RX7 102 "TankChain$Tank" "size" "I", Cond.fieldLink RX7 105 "TankChain$Tank" "bank" "I", Cond.methodLink RX7 91 yX7_tankAt, Cond.instanceMethod yX7_tankAt, Cond.selects RX7 yX7_tankAt yX7_tankAt, Cond.code yX7_tankAt cX7_tankAt 2 (some (.object "TankChain$Tank")), Cond.methodLink RX7 95 yX7_isWithin, Cond.static yX7_isWithin]
def wsL_law_r8 : List Cond := [Cond.code yX7_isWithin cX7_isWithin 3 (some .boolean), Cond.methodLink RL 25 yX8_tank, Cond.instanceMethod yX8_tank, Cond.selects RX8 yX8_tank yX8_tank, Cond.code yX8_tank cX8_tank 5 (some .boolean), Cond.fieldLink RX8 129 "TankChainModel" "day" "I", Cond.methodLink RX8 125 yX8_isTank, Cond.instanceMethod yX8_isTank, Cond.selects RX8 yX8_isTank yX8_isTank, Cond.code yX8_isTank cX8_isTank 2 (some .boolean), Cond.methodLink RX8 121 yX8_isIn, Cond.static yX8_isIn, Cond.code yX8_isIn cX8_isIn 3 (some .boolean), Cond.methodLink RL 26 yX7_water, Cond.instanceMethod yX7_water, Cond.selects RX7 yX7_water yX7_water, Cond.code yX7_water cX7_water 4 (some .boolean), Cond.fieldLink RX7 108 "TankChain$Tank" "now" "LTankChain$Pool;", Cond.fieldLink RX7 112 "TankChain$Pool" "breached" "Z", Cond.fieldLink RX7 122 "TankChain$Pool" "water" "I", Cond.methodLink RX7 118 yX5_roomIf, Cond.instanceMethod yX5_roomIf, Cond.selects RX5 yX5_roomIf yX5_roomIf, Cond.code yX5_roomIf cX5_roomIf 2 (some .int)]
def wsL_law_r9 : List Cond := [Cond.methodLink RL 30 yX8_water, Cond.instanceMethod yX8_water, Cond.selects RX8 yX8_water yX8_water, Cond.code yX8_water cX8_water 3 (some .boolean), Cond.fieldLink RX8 136 "TankChainModel" "toldMore" "I", Cond.methodLink RX8 132 yX8_room, Cond.instanceMethod yX8_room, Cond.selects RX8 yX8_room yX8_room, Cond.code yX8_room cX8_room 3 (some .int), Cond.methodLink RL 31 yX7_field, Cond.instanceMethod yX7_field, Cond.selects RX7 yX7_field yX7_field, Cond.code yX7_field cX7_field 10 (some .int), Cond.instantiable RX1 12, Cond.initialized RX1, Cond.methodLink RX7 125 yX1_init, Cond.instanceMethod yX1_init, Cond.code yX1_init cX1_init 7 none, Cond.methodLink RX1 1 objectInit, Cond.fieldLink RX1 7 "TankChain$Field" "next" "LTankChain$Field;", Cond.fieldLink RX1 13 "TankChain$Field" "share" "I", Cond.fieldLink RX1 17 "TankChain$Field" "remainder" "I", Cond.fieldLink RX1 20 "TankChain$Field" "daysFed" "I", Cond.fieldLink RX1 23 "TankChain$Field" "gotEver" "I"]
def wsL_law_r10 : List Cond := [Cond.fieldLink RX1 26 "TankChain$Field" "gotLately" "I", Cond.fieldLink RX1 29 "TankChain$Field" "number" "I", Cond.fieldLink RX1 32 "TankChain$Field" "tank" "I", Cond.fieldLink RX1 35 "TankChain$Field" "far" "I", Cond.fieldLink RX1 38 "TankChain$Field" "area" "I", Cond.fieldLink RX1 41 "TankChain$Field" "owner" "I", Cond.fieldLink RX1 44 "TankChain$Field" "temple" "Z", Cond.methodLink RX7 128 yX5_putInOrder, Cond.instanceMethod yX5_putInOrder, Cond.selects RX5 yX5_putInOrder yX5_putInOrder, Cond.code yX5_putInOrder cX5_putInOrder 5 none, Cond.fieldLink RX5 54 "TankChain$Field" "next" "LTankChain$Field;", Cond.methodLink RX5 48 yX0_isAhead, Cond.instanceMethod yX0_isAhead, Cond.selects RX0 yX0_isAhead yX0_isAhead, Cond.code yX0_isAhead cX0_isAhead 5 (some .boolean), Cond.fieldLink RX0 43 "TankChain$Field" "number" "I", Cond.methodLink RX0 39 yX0_rank, Cond.static yX0_rank, Cond.code yX0_rank cX0_rank 2 (some .int), Cond.fieldLink RX0 48 "TankChain$Field" "temple" "Z", Cond.fieldLink RX0 51 "TankChain$Field" "area" "I", Cond.fieldLink RX0 54 "TankChain$Field" "far" "I", Cond.methodLink RL 35 yX8_field]
def wsL_law_r11 : List Cond := [Cond.instanceMethod yX8_field, Cond.selects RX8 yX8_field yX8_field, Cond.code yX8_field cX8_field 6 (some .int), Cond.fieldLink RX8 139 "TankChainModel" "fields" "I", Cond.methodLink RL 36 yX7_open, Cond.instanceMethod yX7_open, Cond.selects RX7 yX7_open yX7_open, Cond.code yX7_open cX7_open 4 (some .boolean), Cond.fieldLink RX7 132 "TankChain$Pool" "opening" "I", Cond.methodLink RL 39 yX8_open, Cond.instanceMethod yX8_open, Cond.selects RX8 yX8_open yX8_open, Cond.code yX8_open cX8_open 3 (some .boolean), Cond.methodLink RL 40 yX7_mend, Cond.instanceMethod yX7_mend, Cond.selects RX7 yX7_mend yX7_mend, Cond.code yX7_mend cX7_mend 4 (some .boolean), Cond.methodLink RL 43 yX8_mend, Cond.instanceMethod yX8_mend, Cond.selects RX8 yX8_mend yX8_mend, Cond.code yX8_mend cX8_mend 3 (some .boolean), Cond.methodLink RL 44 yX7_dredge, Cond.instanceMethod yX7_dredge, Cond.selects RX7 yX7_dredge yX7_dredge]
def wsL_law_r12 : List Cond := [Cond.code yX7_dredge cX7_dredge 4 (some .int), Cond.fieldLink RX7 135 "TankChain$Tank" "silt" "I", Cond.methodLink RL 48 yX8_dredge, Cond.instanceMethod yX8_dredge, Cond.selects RX8 yX8_dredge yX8_dredge, Cond.code yX8_dredge cX8_dredge 3 (some .int), Cond.methodLink RL 49 yX7_feed, Cond.instanceMethod yX7_feed, Cond.selects RX7 yX7_feed yX7_feed, Cond.code yX7_feed cX7_feed 6 (some .int), Cond.fieldLink RX7 138 "TankChain$Tape" "held" "I", Cond.methodLink RX7 141 yX6_putFour, Cond.instanceMethod yX6_putFour, Cond.selects RX6 yX6_putFour yX6_putFour, Cond.code yX6_putFour cX6_putFour 2 none, Cond.methodLink RX6 31 yX6_putByte, Cond.instanceMethod yX6_putByte, Cond.selects RX6 yX6_putByte yX6_putByte, Cond.code yX6_putByte cX6_putByte 2 none, Cond.methodLink RL 53 yX8_feed, Cond.instanceMethod yX8_feed, Cond.selects RX8 yX8_feed yX8_feed, Cond.code yX8_feed cX8_feed 6 (some .int), Cond.fieldLink RX8 146 "TankChainModel" "taped" "I"]
def wsL_law_r13 : List Cond := [Cond.methodLink RX8 149 yX8_four, Cond.instanceMethod yX8_four, Cond.selects RX8 yX8_four yX8_four, Cond.code yX8_four cX8_four 3 none, Cond.methodLink RL 54 yX7_custom, Cond.instanceMethod yX7_custom, Cond.selects RX7 yX7_custom yX7_custom, Cond.code yX7_custom cX7_custom 2 (some .int), Cond.fieldLink RX7 156 "TankChain$Custom" "statements" "I", Cond.methodLink RX7 145 yX6_faultReading, Cond.instanceMethod yX6_faultReading, Cond.selects RX6 yX6_faultReading yX6_faultReading, Cond.code yX6_faultReading cX6_faultReading 3 (some .int), Cond.fieldLink RX6 43 "TankChain$Custom" "statements" "I", Cond.methodLink RX6 35 yX0_clear, Cond.instanceMethod yX0_clear, Cond.selects RX0 yX0_clear yX0_clear, Cond.code yX0_clear cX0_clear 1 none, Cond.methodLink RX6 40 yX6_nextToken, Cond.instanceMethod yX6_nextToken, Cond.selects RX6 yX6_nextToken yX6_nextToken, Cond.code yX6_nextToken cX6_nextToken 1 none, Cond.methodLink RX6 87 yX6_byteAt, Cond.instanceMethod yX6_byteAt]
def wsL_law_r14 : List Cond := [Cond.selects RX6 yX6_byteAt yX6_byteAt, Cond.code yX6_byteAt cX6_byteAt 2 (some .int), Cond.methodLink RX6 95 yX6_isBlank, Cond.static yX6_isBlank, Cond.code yX6_isBlank cX6_isBlank 1 (some .boolean), Cond.methodLink RX6 99 yX6_isLetter, Cond.static yX6_isLetter, Cond.code yX6_isLetter cX6_isLetter 1 (some .boolean), Cond.methodLink RX6 102 yX6_isDigit, Cond.static yX6_isDigit, Cond.code yX6_isDigit cX6_isDigit 1 (some .boolean), Cond.methodLink RX6 46 yX6_readStatement, Cond.instanceMethod yX6_readStatement, Cond.selects RX6 yX6_readStatement yX6_readStatement, Cond.code yX6_readStatement cX6_readStatement 3 (some .boolean), Cond.fieldLink RX6 65 "TankChain$Custom" "near" "I", Cond.fieldLink RX6 69 "TankChain$Custom" "hold" "I", Cond.fieldLink RX6 73 "TankChain$Custom" "fair" "Z", Cond.methodLink RX6 52 yX6_isWord, Cond.instanceMethod yX6_isWord, Cond.selects RX6 yX6_isWord yX6_isWord, Cond.code yX6_isWord cX6_isWord 3 (some .boolean), Cond.methodLink RX6 83 yJ0_length_8abf5, Cond.instanceMethod yJ0_length_8abf5]
def wsL_law_r15 : List Cond := [Cond.selects RJ0 yJ0_length_8abf5 yJ0_length_8abf5, Cond.initialized RJ0, Cond.code yJ0_length_8abf5 cJ0_length_8abf5 1 (some .int), Cond.fieldLink RJ0 9 "java/lang/String" "value" "[B", Cond.methodLink RJ0 335 yJ0_coder_7d493, Cond.instanceMethod yJ0_coder_7d493, Cond.selects RJ0 yJ0_coder_7d493 yJ0_coder_7d493, Cond.code yJ0_coder_7d493 cJ0_coder_7d493 1 (some .byte), Cond.fieldLink RJ0 38 "java/lang/String" "COMPACT_STRINGS" "Z", Cond.fieldLink RJ0 15 "java/lang/String" "coder" "B", Cond.methodLink RX6 91 yJ0_charAt_5068e, Cond.instanceMethod yJ0_charAt_5068e, Cond.selects RJ0 yJ0_charAt_5068e yJ0_charAt_5068e, Cond.code yJ0_charAt_5068e cJ0_charAt_5068e 2 (some .char), Cond.methodLink RJ0 492 yJ0_isLatin1_aae02, Cond.instanceMethod yJ0_isLatin1_aae02, Cond.selects RJ0 yJ0_isLatin1_aae02 yJ0_isLatin1_aae02, Cond.code yJ0_isLatin1_aae02 cJ0_isLatin1_aae02 1 (some .boolean), Cond.methodLink RJ0 495 yJ1_charAt_3b067, Cond.static yJ1_charAt_3b067, Cond.initialized RJ1, Cond.code yJ1_charAt_3b067 cJ1_charAt_3b067 2 (some .char), Cond.methodLink RJ1 9 yJ0_checkIndex_df160, Cond.static yJ0_checkIndex_df160]
def wsL_law_r16 : List Cond := [Cond.code yJ0_checkIndex_df160 cJ0_checkIndex_df160 2 none, Cond.fieldLink RJ0 1053 "jdk/internal/util/Preconditions" "SIOOBE_FORMATTER" "Ljava/util/function/BiFunction;", Cond.methodLink RJ0 1059 yJ3_checkIndex_8e157, Cond.static yJ3_checkIndex_8e157, Cond.initialized RJ3, Cond.code yJ3_checkIndex_8e157 cJ3_checkIndex_8e157 3 (some .int), Cond.methodLink RJ0 498 yJ2_charAt_3b067, Cond.static yJ2_charAt_3b067, Cond.initialized RJ2, Cond.code yJ2_charAt_3b067 cJ2_charAt_3b067 2 (some .char), Cond.methodLink RJ2 67 yJ2_checkIndex_2214a, Cond.static yJ2_checkIndex_2214a, Cond.code yJ2_checkIndex_2214a cJ2_checkIndex_2214a 2 none, Cond.methodLink RJ2 48 yJ2_length_9d52b, Cond.static yJ2_length_9d52b, Cond.code yJ2_length_9d52b cJ2_length_9d52b 1 (some .int), Cond.methodLink RJ2 414 yJ0_checkIndex_df160, Cond.methodLink RJ2 71 yJ2_getChar_3b067, Cond.static yJ2_getChar_3b067, Cond.code yJ2_getChar_3b067 cJ2_getChar_3b067 2 (some .char), Cond.fieldLink RJ2 44 "java/lang/StringUTF16" "$assertionsDisabled" "Z", Cond.fieldLink RJ2 59 "java/lang/StringUTF16" "HI_BYTE_SHIFT" "I", Cond.fieldLink RJ2 63 "java/lang/StringUTF16" "LO_BYTE_SHIFT" "I", Cond.methodLink RX6 56 yX6_readFirst]
def wsL_law_r17 : List Cond := [Cond.instanceMethod yX6_readFirst, Cond.selects RX6 yX6_readFirst yX6_readFirst, Cond.code yX6_readFirst cX6_readFirst 2 (some .boolean), Cond.methodLink RX6 78 yX0_addFirst, Cond.instanceMethod yX0_addFirst, Cond.selects RX0 yX0_addFirst yX0_addFirst, Cond.code yX0_addFirst cX0_addFirst 2 none, Cond.methodLink RX6 61 yX6_numberHere, Cond.instanceMethod yX6_numberHere, Cond.selects RX6 yX6_numberHere yX6_numberHere, Cond.code yX6_numberHere cX6_numberHere 3 (some .int), Cond.methodLink RX7 149 yX0_becomeAs, Cond.instanceMethod yX0_becomeAs, Cond.selects RX0 yX0_becomeAs yX0_becomeAs, Cond.code yX0_becomeAs cX0_becomeAs 3 none, Cond.methodLink RX0 32 yX0_clear, Cond.methodLink RX0 35 yX0_addFirst, Cond.methodLink RX7 153 yX7_orderAnew, Cond.instanceMethod yX7_orderAnew, Cond.selects RX7 yX7_orderAnew yX7_orderAnew, Cond.code yX7_orderAnew cX7_orderAnew 4 none, Cond.fieldLink RX7 267 "TankChain$Flow" "head" "LTankChain$Tank;", Cond.fieldLink RX7 225 "TankChain$Tank" "firstField" "LTankChain$Field;", Cond.fieldLink RX7 271 "TankChain$Tank" "below" "LTankChain$Tank;"]
def wsL_law_r18 : List Cond := [Cond.fieldLink RX7 201 "TankChain$Field" "tank" "I", Cond.methodLink RX7 197 yX7_fieldAt, Cond.instanceMethod yX7_fieldAt, Cond.selects RX7 yX7_fieldAt yX7_fieldAt, Cond.code yX7_fieldAt cX7_fieldAt 2 (some (.object "TankChain$Field")), Cond.methodLink RL 58 yX8_custom_, Cond.instanceMethod yX8_custom_, Cond.selects RX8 yX8_custom_ yX8_custom_, Cond.code yX8_custom_ cX8_custom_ 5 (some .int), Cond.fieldLink RX8 156 "TankChainModel" "end" "I", Cond.fieldLink RX8 153 "TankChainModel" "place" "I", Cond.fieldLink RX8 142 "TankChainModel" "hasCustom" "Z", Cond.methodLink RX8 159 yX8_blanks, Cond.instanceMethod yX8_blanks, Cond.selects RX8 yX8_blanks yX8_blanks, Cond.code yX8_blanks cX8_blanks 1 none, Cond.methodLink RX8 192 yX8_statement, Cond.instanceMethod yX8_statement, Cond.selects RX8 yX8_statement yX8_statement, Cond.code yX8_statement cX8_statement 2 (some .boolean), Cond.constantLong RX8 172 (439855772532), Cond.constantLong RX8 178 (127978976603237), Cond.constantLong RX8 180 (495756340332), Cond.constantLong RX8 182 (1852137842)]
def wsL_law_r19 : List Cond := [Cond.fieldLink RX8 169 "TankChainModel" "number" "I", Cond.constantLong RX8 188 (1752132708), Cond.constantLong RX8 190 (1717660018), Cond.methodLink RX8 174 yX8_takes, Cond.instanceMethod yX8_takes, Cond.selects RX8 yX8_takes yX8_takes, Cond.code yX8_takes cX8_takes 3 (some .boolean), Cond.fieldLink RX8 162 "TankChainModel" "wordEnd" "I", Cond.methodLink RX8 165 yX8_word, Cond.instanceMethod yX8_word, Cond.selects RX8 yX8_word yX8_word, Cond.code yX8_word cX8_word 3 (some .long), Cond.methodLink RX8 184 yX8_takesNumber, Cond.instanceMethod yX8_takesNumber, Cond.selects RX8 yX8_takesNumber yX8_takesNumber, Cond.code yX8_takesNumber cX8_takesNumber 2 (some .boolean), Cond.methodLink RL 59 yX7_fault, Cond.instanceMethod yX7_fault, Cond.selects RX7 yX7_fault yX7_fault, Cond.code yX7_fault cX7_fault 1 (some .int), Cond.methodLink RL 63 yX8_fault, Cond.instanceMethod yX8_fault, Cond.selects RX8 yX8_fault yX8_fault, Cond.code yX8_fault cX8_fault 1 (some .int)]
def wsL_law_r20 : List Cond := [Cond.methodLink RL 64 yX7_day, Cond.instanceMethod yX7_day, Cond.selects RX7 yX7_day yX7_day, Cond.code yX7_day cX7_day 3 (some .int), Cond.fieldLink RX7 174 "TankChain$Flow" "sums" "LTankChain$Sums;", Cond.methodLink RX7 159 yX7_addSilt, Cond.instanceMethod yX7_addSilt, Cond.selects RX7 yX7_addSilt yX7_addSilt, Cond.code yX7_addSilt cX7_addSilt 2 none, Cond.methodLink RX7 162 yX2_startFromNow, Cond.instanceMethod yX2_startFromNow, Cond.selects RX2 yX2_startFromNow yX2_startFromNow, Cond.code yX2_startFromNow cX2_startFromNow 2 none, Cond.fieldLink RX2 30 "TankChain$Tank" "after" "LTankChain$Pool;", Cond.fieldLink RX2 36 "TankChain$Tank" "now" "LTankChain$Pool;", Cond.fieldLink RX2 45 "TankChain$Tank" "below" "LTankChain$Tank;", Cond.methodLink RX2 39 yX3_becomeAs, Cond.instanceMethod yX3_becomeAs, Cond.selects RX3 yX3_becomeAs yX3_becomeAs, Cond.code yX3_becomeAs cX3_becomeAs 2 none, Cond.methodLink RX7 165 yX2_passDay, Cond.instanceMethod yX2_passDay, Cond.selects RX2 yX2_passDay yX2_passDay, Cond.code yX2_passDay cX2_passDay 4 none]
def wsL_law_r21 : List Cond := [Cond.fieldLink RX2 51 "TankChain$Tank" "catches" "I", Cond.fieldLink RX2 58 "TankChain$Sums" "out" "I", Cond.methodLink RX2 48 yX4_clear, Cond.instanceMethod yX4_clear, Cond.selects RX4 yX4_clear yX4_clear, Cond.code yX4_clear cX4_clear 1 none, Cond.methodLink RX2 54 yX2_sentDown, Cond.instanceMethod yX2_sentDown, Cond.selects RX2 yX2_sentDown yX2_sentDown, Cond.code yX2_sentDown cX2_sentDown 10 (some .int), Cond.fieldLink RX2 61 "TankChain$Pool" "water" "I", Cond.fieldLink RX2 68 "TankChain$Pool" "breached" "Z", Cond.methodLink RX2 76 Lib.Math.max.name, Cond.fieldLink RX2 82 "TankChain$Tank" "bank" "I", Cond.fieldLink RX2 85 "TankChain$Pool" "taken" "I", Cond.fieldLink RX2 88 "TankChain$Pool" "spilt" "I", Cond.fieldLink RX2 91 "TankChain$Sums" "rained" "I", Cond.fieldLink RX2 94 "TankChain$Sums" "seeped" "I", Cond.fieldLink RX2 97 "TankChain$Sums" "kept" "I", Cond.methodLink RX2 64 yX2_takenByFields, Cond.instanceMethod yX2_takenByFields, Cond.selects RX2 yX2_takenByFields yX2_takenByFields, Cond.code yX2_takenByFields cX2_takenByFields 9 (some .int), Cond.fieldLink RX2 100 "TankChain$Tank" "size" "I"]
def wsL_law_r22 : List Cond := [Cond.fieldLink RX2 103 "TankChain$Custom" "hold" "I", Cond.fieldLink RX2 108 "TankChain$Pool" "opening" "I", Cond.methodLink RX2 111 Lib.Math.min.name, Cond.fieldLink RX2 118 "TankChain$Custom" "near" "I", Cond.fieldLink RX2 124 "TankChain$Custom" "fair" "Z", Cond.fieldLink RX2 135 "TankChain$Tank" "firstField" "LTankChain$Field;", Cond.fieldLink RX2 139 "TankChain$Field" "share" "I", Cond.fieldLink RX2 148 "TankChain$Field" "area" "I", Cond.fieldLink RX2 151 "TankChain$Field" "next" "LTankChain$Field;", Cond.methodLink RX2 114 yX5_isBadYearWith, Cond.instanceMethod yX5_isBadYearWith, Cond.selects RX5 yX5_isBadYearWith yX5_isBadYearWith, Cond.code yX5_isBadYearWith cX5_isBadYearWith 2 (some .boolean), Cond.methodLink RX2 121 yX2_areasWithin, Cond.static yX2_areasWithin, Cond.code yX2_areasWithin cX2_areasWithin 4 (some .int), Cond.fieldLink RX2 154 "TankChain$Field" "far" "I", Cond.methodLink RX2 127 yX2_shareFairly, Cond.static yX2_shareFairly, Cond.code yX2_shareFairly cX2_shareFairly 7 none, Cond.fieldLink RX2 157 "TankChain$Field" "remainder" "I", Cond.methodLink RX2 160 yX2_giveOneMore, Cond.static yX2_giveOneMore, Cond.code yX2_giveOneMore cX2_giveOneMore 4 none]
def wsL_law_r23 : List Cond := [Cond.methodLink RX2 131 yX2_shareInOrder, Cond.static yX2_shareInOrder, Cond.code yX2_shareInOrder cX2_shareInOrder 5 none, Cond.methodLink RX2 144 yX1_isFed, Cond.instanceMethod yX1_isFed, Cond.selects RX1 yX1_isFed yX1_isFed, Cond.code yX1_isFed cX1_isFed 1 (some .boolean), Cond.methodLink RX2 72 yX5_roomIf, Cond.methodLink RX7 168 yX7_keepTanks, Cond.instanceMethod yX7_keepTanks, Cond.selects RX7 yX7_keepTanks yX7_keepTanks, Cond.code yX7_keepTanks cX7_keepTanks 4 none, Cond.fieldLink RX7 274 "TankChain$Tank" "after" "LTankChain$Pool;", Cond.fieldLink RX7 190 "TankChain$Tank" "breachedOn" "I", Cond.fieldLink RX7 277 "TankChain$Tank" "number" "I", Cond.methodLink RX7 278 yX3_becomeAs, Cond.methodLink RX7 171 yX7_keepFields, Cond.instanceMethod yX7_keepFields, Cond.selects RX7 yX7_keepFields yX7_keepFields, Cond.code yX7_keepFields cX7_keepFields 3 none, Cond.methodLink RX7 281 yX1_keepShare, Cond.instanceMethod yX1_keepShare, Cond.selects RX1 yX1_keepShare yX1_keepShare, Cond.code yX1_keepShare cX1_keepShare 1 none]
def wsL_law_r24 : List Cond := [Cond.methodLink RX1 48 yX1_isFed, Cond.methodLink RX7 177 yX4_addAll, Cond.instanceMethod yX4_addAll, Cond.selects RX4 yX4_addAll yX4_addAll, Cond.code yX4_addAll cX4_addAll 2 none, Cond.methodLink RL 67 yX8_day, Cond.instanceMethod yX8_day, Cond.selects RX8 yX8_day yX8_day, Cond.code yX8_day cX8_day 3 (some .int), Cond.fieldLink RX8 229 "TankChainModel" "rain" "I", Cond.methodLink RX8 232 yX8_flows, Cond.instanceMethod yX8_flows, Cond.selects RX8 yX8_flows yX8_flows, Cond.code yX8_flows cX8_flows 16 (some .int), Cond.fieldLink RX8 217 "TankChainModel" "seeped" "I", Cond.fieldLink RX8 220 "TankChainModel" "kept" "I", Cond.fieldLink RX8 223 "TankChainModel" "rained" "I", Cond.fieldLink RX8 226 "TankChainModel" "out" "I", Cond.methodLink RX8 213 yX8_gives, Cond.instanceMethod yX8_gives, Cond.selects RX8 yX8_gives yX8_gives, Cond.code yX8_gives cX8_gives 11 (some .int), Cond.methodLink RX8 195 yX8_custom, Cond.instanceMethod yX8_custom]
def wsL_law_r25 : List Cond := [Cond.selects RX8 yX8_custom yX8_custom, Cond.code yX8_custom cX8_custom 3 (some .int), Cond.methodLink RX8 206 yX8_ordered, Cond.instanceMethod yX8_ordered, Cond.selects RX8 yX8_ordered yX8_ordered, Cond.code yX8_ordered cX8_ordered 5 (some .int), Cond.methodLink RX8 202 yX8_isAhead, Cond.instanceMethod yX8_isAhead, Cond.selects RX8 yX8_isAhead yX8_isAhead, Cond.code yX8_isAhead cX8_isAhead 5 (some .boolean), Cond.methodLink RX8 198 yX8_one, Cond.static yX8_one, Cond.code yX8_one cX8_one 1 (some .int), Cond.methodLink RX8 210 yX8_isBad, Cond.instanceMethod yX8_isBad, Cond.selects RX8 yX8_isBad yX8_isBad, Cond.code yX8_isBad cX8_isBad 3 (some .boolean), Cond.methodLink RL 68 yX7_told, Cond.instanceMethod yX7_told, Cond.selects RX7 yX7_told yX7_told, Cond.code yX7_told cX7_told 4 (some .int), Cond.fieldLink RX7 184 "TankChain$Pool" "taken" "I", Cond.fieldLink RX7 187 "TankChain$Pool" "spilt" "I", Cond.methodLink RX7 181 yX7_asNumber]
def wsL_law_r26 : List Cond := [Cond.static yX7_asNumber, Cond.code yX7_asNumber cX7_asNumber 1 (some .int), Cond.methodLink RX7 193 yX5_isBadYearWith, Cond.methodLink RL 71 yX8_told, Cond.instanceMethod yX8_told, Cond.selects RX8 yX8_told yX8_told, Cond.code yX8_told cX8_told 3 (some .int), Cond.methodLink RL 72 yX7_fieldOf, Cond.instanceMethod yX7_fieldOf, Cond.selects RX7 yX7_fieldOf yX7_fieldOf, Cond.code yX7_fieldOf cX7_fieldOf 4 (some .int), Cond.fieldLink RX7 204 "TankChain$Field" "far" "I", Cond.fieldLink RX7 207 "TankChain$Field" "area" "I", Cond.fieldLink RX7 210 "TankChain$Field" "owner" "I", Cond.fieldLink RX7 213 "TankChain$Field" "temple" "Z", Cond.fieldLink RX7 216 "TankChain$Field" "daysFed" "I", Cond.fieldLink RX7 219 "TankChain$Field" "gotEver" "I", Cond.fieldLink RX7 222 "TankChain$Field" "gotLately" "I", Cond.methodLink RL 75 yX8_fieldOf, Cond.instanceMethod yX8_fieldOf, Cond.selects RX8 yX8_fieldOf yX8_fieldOf, Cond.code yX8_fieldOf cX8_fieldOf 3 (some .int), Cond.methodLink RL 76 yX7_order, Cond.instanceMethod yX7_order]
def wsL_law_r27 : List Cond := [Cond.selects RX7 yX7_order yX7_order, Cond.code yX7_order cX7_order 6 (some .int), Cond.fieldLink RX7 229 "TankChain$Field" "number" "I", Cond.fieldLink RX7 232 "TankChain$Field" "next" "LTankChain$Field;", Cond.methodLink RL 79 yX8_order, Cond.instanceMethod yX8_order, Cond.selects RX8 yX8_order yX8_order, Cond.code yX8_order cX8_order 4 (some .int), Cond.methodLink RL 80 yX7_owner, Cond.instanceMethod yX7_owner, Cond.selects RX7 yX7_owner yX7_owner, Cond.code yX7_owner cX7_owner 5 (some .int), Cond.methodLink RL 83 yX8_owner, Cond.instanceMethod yX8_owner, Cond.selects RX8 yX8_owner yX8_owner, Cond.code yX8_owner cX8_owner 2 (some .int), Cond.methodLink RL 84 yX7_tried, Cond.instanceMethod yX7_tried, Cond.selects RX7 yX7_tried yX7_tried, Cond.code yX7_tried cX7_tried 5 (some .int), Cond.methodLink RX7 235 yX7_mayTry, Cond.static yX7_mayTry, Cond.code yX7_mayTry cX7_mayTry 2 (some .boolean), Cond.methodLink RX7 239 yX7_waterTried]
def wsL_law_r28 : List Cond := [Cond.instanceMethod yX7_waterTried, Cond.selects RX7 yX7_waterTried yX7_waterTried, Cond.code yX7_waterTried cX7_waterTried 6 (some .int), Cond.methodLink RL 88 yX8_tried, Cond.instanceMethod yX8_tried, Cond.selects RX8 yX8_tried yX8_tried, Cond.code yX8_tried cX8_tried 4 (some .int), Cond.methodLink RX8 236 yX8_isTrial, Cond.static yX8_isTrial, Cond.code yX8_isTrial cX8_isTrial 2 (some .boolean), Cond.methodLink RX8 239 yX8_openings, Cond.instanceMethod yX8_openings, Cond.selects RX8 yX8_openings yX8_openings, Cond.code yX8_openings cX8_openings 2 none, Cond.methodLink RX8 242 yX8_tries, Cond.instanceMethod yX8_tries, Cond.selects RX8 yX8_tries yX8_tries, Cond.code yX8_tries cX8_tries 5 (some .int), Cond.methodLink RL 89 yX7_lost, Cond.instanceMethod yX7_lost, Cond.selects RX7 yX7_lost yX7_lost, Cond.code yX7_lost cX7_lost 7 (some .int), Cond.constant RX7 243 (-100000), Cond.methodLink RL 93 yX8_lost]
def wsL_law_r29 : List Cond := [Cond.instanceMethod yX8_lost, Cond.selects RX8 yX8_lost yX8_lost, Cond.code yX8_lost cX8_lost 6 (some .int), Cond.constant RX8 245 (-100000), Cond.methodLink RL 94 yX7_most, Cond.instanceMethod yX7_most, Cond.selects RX7 yX7_most yX7_most, Cond.code yX7_most cX7_most 12 (some .int), Cond.methodLink RX7 244 yX7_areasFedBy, Cond.instanceMethod yX7_areasFedBy, Cond.selects RX7 yX7_areasFedBy yX7_areasFedBy, Cond.code yX7_areasFedBy cX7_areasFedBy 8 (some .int), Cond.fieldLink RX7 284 "TankChain$Flow" "areasFed" "I", Cond.methodLink RX7 248 yX7_openingIn, Cond.static yX7_openingIn, Cond.code yX7_openingIn cX7_openingIn 4 (some .int), Cond.methodLink RL 97 yX8_most, Cond.instanceMethod yX8_most, Cond.selects RX8 yX8_most yX8_most, Cond.code yX8_most cX8_most 12 (some .int), Cond.methodLink RL 98 yX7_breach, Cond.instanceMethod yX7_breach, Cond.selects RX7 yX7_breach yX7_breach, Cond.code yX7_breach cX7_breach 2 (some .int)]
def wsL_law_r30 : List Cond := [Cond.methodLink RL 101 yX8_breach, Cond.instanceMethod yX8_breach, Cond.selects RX8 yX8_breach yX8_breach, Cond.code yX8_breach cX8_breach 2 (some .int), Cond.methodLink RL 102 yX7_count, Cond.instanceMethod yX7_count, Cond.selects RX7 yX7_count yX7_count, Cond.code yX7_count cX7_count 2 (some .int), Cond.fieldLink RX7 255 "TankChain$Sums" "out" "I", Cond.fieldLink RX7 258 "TankChain$Sums" "seeped" "I", Cond.fieldLink RX7 261 "TankChain$Sums" "kept" "I", Cond.fieldLink RX7 264 "TankChain$Sums" "rained" "I", Cond.methodLink RX7 251 yX7_allWater, Cond.instanceMethod yX7_allWater, Cond.selects RX7 yX7_allWater yX7_allWater, Cond.code yX7_allWater cX7_allWater 3 (some .int), Cond.methodLink RL 105 yX8_count, Cond.instanceMethod yX8_count, Cond.selects RX8 yX8_count yX8_count, Cond.code yX8_count cX8_count 4 (some .int)]
def wsL_law : List Cond := (wsL_law_r1 ++ (wsL_law_r2 ++ (wsL_law_r3 ++ (wsL_law_r4 ++ (wsL_law_r5 ++ (wsL_law_r6 ++ (wsL_law_r7 ++ (wsL_law_r8 ++ (wsL_law_r9 ++ (wsL_law_r10 ++ (wsL_law_r11 ++ (wsL_law_r12 ++ (wsL_law_r13 ++ (wsL_law_r14 ++ (wsL_law_r15 ++ (wsL_law_r16 ++ (wsL_law_r17 ++ (wsL_law_r18 ++ (wsL_law_r19 ++ (wsL_law_r20 ++ (wsL_law_r21 ++ (wsL_law_r22 ++ (wsL_law_r23 ++ (wsL_law_r24 ++ (wsL_law_r25 ++ (wsL_law_r26 ++ (wsL_law_r27 ++ (wsL_law_r28 ++ (wsL_law_r29 ++ wsL_law_r30))))))))))))))))))))))))))))) ++ wsX70 ++ wsX80 ++ wsX60 ++ wsX00 ++ wsX40 ++ wsX50 ++ wsX20 ++ wsX30 ++ wsX10 ++ ([] : List Cond)
set_option maxRecDepth 20000 in
theorem inlX0 : ∀ w ∈ wsX00, w ∈ wsL_law := fun _ h => List.mem_append_left _ (List.mem_append_left _ (List.mem_append_left _ (List.mem_append_left _ (List.mem_append_left _ (List.mem_append_left _ (List.mem_append_right _ h))))))
theorem inlX1 : ∀ w ∈ wsX10, w ∈ wsL_law := fun _ h => List.mem_append_left _ (List.mem_append_right _ h)
theorem inlX2 : ∀ w ∈ wsX20, w ∈ wsL_law := fun _ h => List.mem_append_left _ (List.mem_append_left _ (List.mem_append_left _ (List.mem_append_right _ h)))
theorem inlX3 : ∀ w ∈ wsX30, w ∈ wsL_law := fun _ h => List.mem_append_left _ (List.mem_append_left _ (List.mem_append_right _ h))
theorem inlX4 : ∀ w ∈ wsX40, w ∈ wsL_law := fun _ h => List.mem_append_left _ (List.mem_append_left _ (List.mem_append_left _ (List.mem_append_left _ (List.mem_append_left _ (List.mem_append_right _ h)))))
theorem inlX5 : ∀ w ∈ wsX50, w ∈ wsL_law := fun _ h => List.mem_append_left _ (List.mem_append_left _ (List.mem_append_left _ (List.mem_append_left _ (List.mem_append_right _ h))))
theorem inlX6 : ∀ w ∈ wsX60, w ∈ wsL_law := fun _ h => List.mem_append_left _ (List.mem_append_left _ (List.mem_append_left _ (List.mem_append_left _ (List.mem_append_left _ (List.mem_append_left _ (List.mem_append_left _ (List.mem_append_right _ h)))))))
theorem inlX7 : ∀ w ∈ wsX70, w ∈ wsL_law := fun _ h => List.mem_append_left _ (List.mem_append_left _ (List.mem_append_left _ (List.mem_append_left _ (List.mem_append_left _ (List.mem_append_left _ (List.mem_append_left _ (List.mem_append_left _ (List.mem_append_left _ (List.mem_append_right _ h)))))))))
theorem inlX8 : ∀ w ∈ wsX80, w ∈ wsL_law := fun _ h => List.mem_append_left _ (List.mem_append_left _ (List.mem_append_left _ (List.mem_append_left _ (List.mem_append_left _ (List.mem_append_left _ (List.mem_append_left _ (List.mem_append_left _ (List.mem_append_right _ h))))))))
theorem inJ9 : ∀ w ∈ wsJ90, w ∈ lw_tbl := by decide +kernel
theorem inJ0 : ∀ w ∈ wsJ00, w ∈ lw_tbl := by decide +kernel
theorem inJ1 : ∀ w ∈ wsJ10, w ∈ lw_tbl := by decide +kernel
theorem inJ2 : ∀ w ∈ wsJ20, w ∈ lw_tbl := by decide +kernel
theorem inJ3 : ∀ w ∈ wsJ30, w ∈ lw_tbl := by decide +kernel
abbrev vwCl : List vw_C := [(RX0, TX0, 6), (RX1, TX1, 12), (RX2, TX2, 4), (RX3, TX3, 5), (RX4, TX4, 4), (RX5, TX5, 10), (RX6, TX6, 6), (RX7, TX7, 15), (RX8, TX8, 47)]
end
section
/-! ===== the heap as two functions (whole numbers, references) over shapes; every method of the class and of the reference is read off its bytecode as a function over it (parts 04 on, by wip/whole/gen.py) ===== -/
abbrev Sh : Type := Nat ⊕ (FieldType × Nat)
/-- size; shapes; whole numbers; references -/
abbrev AH : Type := Nat × (Nat → Option Sh) × (Nat → Nat → Int32) × (Nat → Nat → Option Nat)
abbrev RG : Type := (Nat → ClassId) × (Nat → Nat → Nat) × (FieldType → ClassId) × (Nat → Nat) × (Nat → Nat)
def r_ty (ci k : Nat) : FieldType := match ci with
  | 0 => tyX0 k
  | 1 => tyX1 k
  | 2 => tyX2 k
  | 3 => tyX3 k
  | 4 => tyX4 k
  | 5 => tyX5 k
  | 6 => tyX6 k
  | 7 => tyX7 k
  | _ => tyX8 k
def r_val (ty : FieldType) (x : Int32) (r : Option Nat) : Value := match ty with
  | .object _ => va_rf r
  | .array _ => va_rf r
  | _ => .int x
def r_at (D : RG) (h : AH) (a : Nat) (s : Sh) (H : Heap) : Prop := match s with
  | .inl ci => ∃ q : vw_C, vwCl[ci]? = some q ∧ t_OB a (D.1 ci) q.2.2 (D.2.1 ci) H (fun k => r_val (r_ty ci k) (h.2.2.1 a k) (h.2.2.2 a k))
  | .inr t => H[a]? = some (arrV (D.2.2.1 t.1) t.2 (fun k => r_val t.1 (h.2.2.1 a k) (h.2.2.2 a k)))
/-- nest mates' constructors -/
def r_nw : List Cond := [.methodLinkNest RX7 17 yX6_init RX7, .methodLinkNest RX7 24 yX0_init RX7, .methodLinkNest RX7 34 yX4_init RX7, .methodLinkNest RX5 11 yX3_init RX7, .methodLinkNest RX2 11 yX4_init RX7]
def r_tys : List FieldType := [.int, .byte, .boolean, .object RX5, .object RX1]
/-- the literals: place in Tape's pool, text; lengths; bytes -/
def r_lit : List (Nat × String) := [(50, "first"), (59, "near"), (67, "hold"), (71, "fair"), (76, "temple"), (81, "small")]
def r_len : List Nat := [5, 4, 4, 4, 6, 5]
def r_byt : List (List Int32) := [[102, 105, 114, 115, 116], [110, 101, 97, 114], [104, 111, 108, 100], [102, 97, 105, 114], [116, 101, 109, 112, 108, 101], [115, 109, 97, 108, 108]]
def r_K (D : RG) (U : State) : Prop := va_K (D.1, D.2.1) vwCl [] U ∧ (∀ ty ∈ r_tys, ArrOfT U (D.2.2.1 ty) ty ∧ va_RA U (D.2.2.1 ty) ty) ∧ (∀ w ∈ r_nw, va_Nw w U) ∧ ∀ i, i < 6 → vk_R RX6 (r_lit.getD i (0, "")).1 (r_lit.getD i (0, "")).2 (D.2.2.2.1 i) U
/-- what lies below b and is never written: the literals, the JDK's statics -/
def r_E (D : RG) (b : Nat) (U : State) (H : Heap) : Prop := va_Z "java/lang/String" "COMPACT_STRINGS" "Z" (.int 1) (fun q => b ≤ q) U H ∧ va_Zq "jdk/internal/util/Preconditions" "SIOOBE_FORMATTER" "Ljava/util/function/BiFunction;" (fun q => b ≤ q) U H ∧ vk_S 6 r_len r_byt D.2.2.2.1 D.2.2.2.2 (fun q => b ≤ q) U H
def r_P (D : RG) (b : Nat) (h : AH) (H : Heap) : Prop := H.size = h.1 ∧ ∀ (a : Nat) (t : Sh), h.2.1 a = some t → b ≤ a ∧ r_at D h a t H
/-- a method's start -/
def r_I (D : RG) (b : Nat) (h : AH) (U : State) : Prop := r_K D U ∧ r_E D b U U.heap ∧ b ≤ U.heap.size ∧ r_P D b h U.heap
/-- a method's end -/
def r_Q (D : RG) (b : Nat) (v : Option Value) (h : AH) : Array Value → State → Outcome → State → Prop := fun _ st oc t => oc = .returned v ∧ r_P D b h t.heap ∧ va_F (fun q => b ≤ q) st t
/-- what stands while a method runs -/
def r_C (p : Program) (c : Code) (cc : ByteArray) (nL : Nat) (s : State) (m : MethodId) (args : Array Value) (own : String) (D : RG) (b : Nat) : Prop := CallFix p m c cc nL s args wsL_law own ∧ r_K D s ∧ r_E D b s s.heap ∧ b ≤ s.heap.size
def r_B (D : RG) (b : Nat) (s : State) (h : AH) (H : Heap) (locs : List Loc) : Prop := r_P D b h H ∧ va_S (fun q => b ≤ q) s.heap H locs
theorem r_K.warm {D : RG} {s U : State} (hW : s.WarmedH U.vm) (h : r_K D s) : r_K D U := by
  obtain ⟨h1, h2, h3, h5⟩ := h
  refine ⟨va_K.moved hW.alike h1, fun ty ht => ⟨arrOfT_moved hW.alike (h2 ty ht).1, (h2 ty ht).2.moved hW.alike⟩, fun w hw => ?_, fun i hi => vk_R.warm hW (h5 i hi)⟩
  have h4 := h3 w hw
  simp only [r_nw, List.mem_cons, List.not_mem_nil, or_false] at hw
  rcases hw with rfl | rfl | rfl | rfl | rfl <;> exact va_Nw.warmM hW h4
theorem r_K.same {D : RG} {s U : State} (hv : s.vm = U.vm) (h : r_K D s) : r_K D U := by
  obtain ⟨h1, h2, h3, h5⟩ := h
  have hW : s.vm.Alike U.vm := by rw [← hv]; exact Vm.Alike.refl _
  refine ⟨va_K.moved hW h1, fun ty ht => ⟨arrOfT_moved hW (h2 ty ht).1, (h2 ty ht).2.moved hW⟩, fun w hw => ?_, fun i hi => vk_R.same hv.symm (h5 i hi)⟩
  have h4 := h3 w hw
  simp only [r_nw, List.mem_cons, List.not_mem_nil, or_false] at hw
  rcases hw with rfl | rfl | rfl | rfl | rfl <;> exact va_Nw.same rfl hv h4
theorem r_E.go {D : RG} {b : Nat} {s U : State} {H0 H : Heap} (hv : s.vm.Alike U.vm) (hq : ∀ q : Nat, q < H0.size → ¬ b ≤ q → H[q]? = H0[q]?) (h : r_E D b s H0) : r_E D b U H :=
  ⟨va_Z.moved hv (h.1.kept hq), va_Zq.moved hv (h.2.1.kept hq), vk_S.moved hv (h.2.2.kept hq)⟩
theorem r_blind {D : RG} {b : Nat} {h : AH} (As : List Value) : FrameBlind (va_Pc As (r_I D b h)) := by
  intro a U g mk q
  obtain ⟨q1, q2, q3, q4, q5⟩ := q
  exact ⟨q1, r_K.same (s := U) (U := U.calling g mk a) rfl q2, r_E.go (s := U) (U := U.calling g mk a) (Vm.Alike.refl U.vm) (fun _ _ _ => rfl) q3, q4, q5⟩
theorem r_go {p : Program} {c : Code} {cc : ByteArray} {nL : Nat} {s : State} {m : MethodId} {args : Array Value} {own : String} {D : RG} {b : Nat} {h : AH} {H : Heap} {locs : List Loc} (X : r_C p c cc nL s m args own D b) (B : r_B D b s h H locs) {U : State} (hU : U.heap = H) (hW : s.WarmedH U.vm) : r_I D b h U :=
  ⟨r_K.warm hW X.2.1, by rw [hU]; exact r_E.go hW.alike B.2.2.1 X.2.2.1, by rw [hU]; exact Nat.le_trans X.2.2.2 B.2.1, by rw [hU]; exact B.1⟩
theorem wsL_good : wsL_law.all goodWord = true := by decide +kernel
theorem r_good {y : MethodName} {cc : ByteArray} {n : Nat} {ret : Option FieldType} (h : Cond.code y cc n ret ∈ wsL_law) : GoodIn wsL_law (Cond.code y cc n ret :: wsL_law) := by
  refine goodIn_sub (fun w hw => ?_) ?_
  · rcases List.mem_cons.mp hw with e | e
    · rw [e]; exact h
    · exact e
  · rw [List.all_cons, wsL_good, Bool.and_true]
    exact List.all_eq_true.mp wsL_good _ h
/-! heaps -/
def u2 {α : Type} (f : Nat → Nat → α) (a k : Nat) (x : α) : Nat → Nat → α := fun a' k' => if a' = a ∧ k' = k then x else f a' k'
def setI (h : AH) (a k : Nat) (x : Int32) : AH := (h.1, h.2.1, u2 h.2.2.1 a k x, h.2.2.2)
def setR (h : AH) (a k : Nat) (x : Option Nat) : AH := (h.1, h.2.1, h.2.2.1, u2 h.2.2.2 a k x)
def newS (h : AH) (t : Sh) : AH := (h.1 + 1, fun a => if a = h.1 then some t else h.2.1 a, fun a k => if a = h.1 then 0 else h.2.2.1 a k, fun a k => if a = h.1 then none else h.2.2.2 a k)
theorem u2_ne {α : Type} (f : Nat → Nat → α) {a k : Nat} (x : α) {a' : Nat} (h : a' ≠ a) : (u2 f a k x) a' = f a' := by
  funext k'
  simp [u2, h]
theorem u2_eq {α : Type} (f : Nat → Nat → α) (a k : Nat) (x : α) (k' : Nat) : u2 f a k x a k' = if k' = k then x else f a k' := by simp [u2]
theorem r_at.kept {D : RG} {h h' : AH} {a : Nat} {t : Sh} {H H' : Heap} (q : r_at D h a t H) (e : H'[a]? = H[a]?) (e1 : h'.2.2.1 a = h.2.2.1 a) (e2 : h'.2.2.2 a = h.2.2.2 a) : r_at D h' a t H' := by
  cases t with
  | inl ci =>
    obtain ⟨r, h1, h2⟩ := q
    refine ⟨r, h1, ?_⟩
    rw [e1, e2]
    exact h2.kept e
  | inr t =>
    show H'[a]? = _
    rw [e, e1, e2]
    exact q
theorem r_at.lt {D : RG} {h : AH} {a : Nat} {t : Sh} {H : Heap} (q : r_at D h a t H) : a < H.size := by
  cases t with
  | inl ci =>
    obtain ⟨r, h1, cell, h2, -⟩ := q
    exact (Array.getElem?_eq_some_iff.mp h2).1
  | inr t => exact (Array.getElem?_eq_some_iff.mp q).1
/-- one cell is written -/
theorem r_B.put {D : RG} {b : Nat} {s : State} {h h' : AH} {H H' : Heap} {locs : List Loc} (B : r_B D b s h H locs) {a i : Nat} {t : Sh} (ht : h.2.1 a = some t) (hz : H'.size = H.size) (oq : ∀ q : Nat, q ≠ a → H'[q]? = H[q]?) (e0 : h'.1 = h.1) (e1 : h'.2.1 = h.2.1) (e2 : ∀ q, q ≠ a → h'.2.2.1 q = h.2.2.1 q) (e3 : ∀ q, q ≠ a → h'.2.2.2 q = h.2.2.2 q) (ha : r_at D h' a t H') : r_B D b s h' H' (locs ++ [⟨a, i⟩]) := by
  obtain ⟨⟨z, P⟩, S⟩ := B
  refine ⟨⟨by rw [hz, e0]; exact z, fun q u hq => ?_⟩, S.put hz oq (P a t ht).1⟩
  rw [e1] at hq
  by_cases e : q = a
  · subst e
    cases hq.symm.trans ht
    exact ⟨(P _ _ ht).1, ha⟩
  · exact ⟨(P q u hq).1, (P q u hq).2.kept (oq q e) (e2 q e) (e3 q e)⟩
/-- a cell comes -/
theorem r_B.new {D : RG} {b : Nat} {s : State} {h : AH} {H H' : Heap} {locs : List Loc} (B : r_B D b s h H locs) (hb : b ≤ s.heap.size) {t : Sh} (hz : H'.size = h.1 + 1) (oq : ∀ q : Nat, q < h.1 → H'[q]? = H[q]?) (ha : r_at D (newS h t) h.1 t H') : r_B D b s (newS h t) H' locs := by
  obtain ⟨⟨z, P⟩, S⟩ := B
  refine ⟨⟨hz, fun q u hq => ?_⟩, by rw [hz, ← z]; exact Nat.le_succ_of_le S.1, fun q h1 h2 => ?_, S.2.2⟩
  · by_cases e : q = h.1
    · subst e
      have : u = t := by simpa [newS] using hq.symm
      subst this
      exact ⟨by rw [← z]; exact Nat.le_trans hb S.1, ha⟩
    · have hq' : h.2.1 q = some u := by simpa [newS, e] using hq
      have hl := (P q u hq').2.lt
      exact ⟨(P q u hq').1, (P q u hq').2.kept (oq q (by omega)) (by funext k; simp [newS, e]) (by funext k; simp [newS, e])⟩
  · rw [oq q (by have := S.1; omega)]
    exact S.2.1 q h1 h2
/-! what a program does, as a function -/
section FN
variable {α β : Type}
def gI (h : AH) (r : Option Nat) (ci k : Nat) (K : Int32 → Option α) : Option α := match r with
  | none => none
  | some a => if h.2.1 a = some (.inl ci) then K (h.2.2.1 a k) else none
def gR (h : AH) (r : Option Nat) (ci k : Nat) (K : Option Nat → Option α) : Option α := match r with
  | none => none
  | some a => if h.2.1 a = some (.inl ci) then K (h.2.2.2 a k) else none
def pI (h : AH) (r : Option Nat) (ci k : Nat) (x : Int32) (K : AH → Option α) : Option α := match r with
  | none => none
  | some a => if h.2.1 a = some (.inl ci) then K (setI h a k x) else none
def pZ (h : AH) (r : Option Nat) (ci k : Nat) (x : Int32) (K : AH → Option α) : Option α := match r with
  | none => none
  | some a => if h.2.1 a = some (.inl ci) ∧ (x = 0 ∨ x = 1) then K (setI h a k x) else none
def pR (h : AH) (r : Option Nat) (ci k : Nat) (x : Option Nat) (K : AH → Option α) : Option α := match r with
  | none => none
  | some a => if h.2.1 a = some (.inl ci) then K (setR h a k x) else none
def arl (h : AH) (r : Option Nat) (ty : FieldType) : Option (Nat × Nat) := match r with
  | none => none
  | some a => match h.2.1 a with
    | some (.inr t) => if t.1 = ty then some (a, t.2) else none
    | _ => none
def aL (ty : FieldType) (h : AH) (r : Option Nat) (K : Int32 → Option α) : Option α := match arl h r ty with
  | none => none
  | some q => K (Int32.ofNat q.2)
def aI (ty : FieldType) (h : AH) (r : Option Nat) (i : Int32) (K : Int32 → Option α) : Option α := match arl h r ty with
  | none => none
  | some q => if i < 0 ∨ q.2 ≤ i.toNatClampNeg then none else K (h.2.2.1 q.1 i.toNatClampNeg)
def aR (ty : FieldType) (h : AH) (r : Option Nat) (i : Int32) (K : Option Nat → Option α) : Option α := match arl h r ty with
  | none => none
  | some q => if i < 0 ∨ q.2 ≤ i.toNatClampNeg then none else K (h.2.2.2 q.1 i.toNatClampNeg)
def sI (ty : FieldType) (h : AH) (r : Option Nat) (i x : Int32) (K : AH → Option α) : Option α := match arl h r ty with
  | none => none
  | some q => if i < 0 ∨ q.2 ≤ i.toNatClampNeg then none else K (setI h q.1 i.toNatClampNeg (vp_nar ty x))
/-- an object of class ci is put into an array of its class -/
def sR (ty : FieldType) (ci : Nat) (h : AH) (r : Option Nat) (i : Int32) (x : Option Nat) (K : AH → Option α) : Option α := match arl h r ty with
  | none => none
  | some q => match x with
    | none => none
    | some v => if (i < 0 ∨ q.2 ≤ i.toNatClampNeg) ∨ ¬ h.2.1 v = some (.inl ci) then none else K (setR h q.1 i.toNatClampNeg (some v))
def bd (x : α) (K : α → Option β) : Option β := K x
def rcv (h : AH) (r : Option Nat) (ci : Nat) (K : Nat → Option α) : Option α := match r with
  | none => none
  | some a => if h.2.1 a = some (.inl ci) then K a else none
def cal (F : Option (α × AH)) (K : α → AH → Option β) : Option β := match F with
  | none => none
  | some q => K q.1 q.2
def dv (x y : Int32) (K : Int32 → Option α) : Option α := if y = 0 then none else K (x / y)
def rm (x y : Int32) (K : Int32 → Option α) : Option α := if y = 0 then none else K (x - x / y * y)
def rZ (x : Int32) (h : AH) : Option (Int32 × AH) := if x = 0 ∨ x = 1 then some (x, h) else none
def nul (r : Option Nat) (A B : Option α) : Option α := match r with
  | none => A
  | some _ => B
theorem gI_inv {h : AH} {r : Option Nat} {ci k : Nat} {K : Int32 → Option α} {Z : α} (hf : gI h r ci k K = some Z) : ∃ a, r = some a ∧ h.2.1 a = some (.inl ci) ∧ K (h.2.2.1 a k) = some Z := by
  cases r with
  | none => cases hf
  | some a =>
    by_cases q : h.2.1 a = some (.inl ci)
    · exact ⟨a, rfl, q, by simpa [gI, q] using hf⟩
    · simp [gI, q] at hf
theorem gR_inv {h : AH} {r : Option Nat} {ci k : Nat} {K : Option Nat → Option α} {Z : α} (hf : gR h r ci k K = some Z) : ∃ a, r = some a ∧ h.2.1 a = some (.inl ci) ∧ K (h.2.2.2 a k) = some Z := by
  cases r with
  | none => cases hf
  | some a =>
    by_cases q : h.2.1 a = some (.inl ci)
    · exact ⟨a, rfl, q, by simpa [gR, q] using hf⟩
    · simp [gR, q] at hf
theorem pI_inv {h : AH} {r : Option Nat} {ci k : Nat} {x : Int32} {K : AH → Option α} {Z : α} (hf : pI h r ci k x K = some Z) : ∃ a, r = some a ∧ h.2.1 a = some (.inl ci) ∧ K (setI h a k x) = some Z := by
  cases r with
  | none => cases hf
  | some a =>
    by_cases q : h.2.1 a = some (.inl ci)
    · exact ⟨a, rfl, q, by simpa [pI, q] using hf⟩
    · simp [pI, q] at hf
theorem pZ_inv {h : AH} {r : Option Nat} {ci k : Nat} {x : Int32} {K : AH → Option α} {Z : α} (hf : pZ h r ci k x K = some Z) : ∃ a, r = some a ∧ h.2.1 a = some (.inl ci) ∧ (x = 0 ∨ x = 1) ∧ K (setI h a k x) = some Z := by
  cases r with
  | none => cases hf
  | some a =>
    by_cases q : h.2.1 a = some (.inl ci) ∧ (x = 0 ∨ x = 1)
    · refine ⟨a, rfl, q.1, q.2, ?_⟩
      unfold pZ at hf
      simp only [if_pos q] at hf
      exact hf
    · unfold pZ at hf
      simp only [if_neg q] at hf
      cases hf
theorem pR_inv {h : AH} {r : Option Nat} {ci k : Nat} {x : Option Nat} {K : AH → Option α} {Z : α} (hf : pR h r ci k x K = some Z) : ∃ a, r = some a ∧ h.2.1 a = some (.inl ci) ∧ K (setR h a k x) = some Z := by
  cases r with
  | none => cases hf
  | some a =>
    by_cases q : h.2.1 a = some (.inl ci)
    · exact ⟨a, rfl, q, by simpa [pR, q] using hf⟩
    · simp [pR, q] at hf
theorem arl_inv {h : AH} {r : Option Nat} {ty : FieldType} {q : Nat × Nat} (hf : arl h r ty = some q) : r = some q.1 ∧ h.2.1 q.1 = some (.inr (ty, q.2)) := by
  cases r with
  | none => cases hf
  | some a =>
    unfold arl at hf
    cases hs : h.2.1 a with
    | none => simp [hs] at hf
    | some t =>
      cases t with
      | inl ci => simp [hs] at hf
      | inr t =>
        simp only [hs] at hf
        by_cases e : t.1 = ty
        · rw [if_pos e] at hf
          cases hf
          subst e
          exact ⟨rfl, hs⟩
        · rw [if_neg e] at hf
          cases hf
theorem aL_inv {ty : FieldType} {h : AH} {r : Option Nat} {K : Int32 → Option α} {Z : α} (hf : aL ty h r K = some Z) : ∃ a n, r = some a ∧ h.2.1 a = some (.inr (ty, n)) ∧ K (Int32.ofNat n) = some Z := by
  unfold aL at hf
  cases e : arl h r ty with
  | none => simp [e] at hf
  | some q =>
    simp only [e] at hf
    exact ⟨q.1, q.2, (arl_inv e).1, (arl_inv e).2, hf⟩
theorem aI_inv {ty : FieldType} {h : AH} {r : Option Nat} {i : Int32} {K : Int32 → Option α} {Z : α} (hf : aI ty h r i K = some Z) : ∃ a n, r = some a ∧ h.2.1 a = some (.inr (ty, n)) ∧ vp_in i n ∧ K (h.2.2.1 a i.toNatClampNeg) = some Z := by
  unfold aI at hf
  cases e : arl h r ty with
  | none => simp [e] at hf
  | some q =>
    simp only [e] at hf
    by_cases e1 : i < 0 ∨ q.2 ≤ i.toNatClampNeg
    · rw [if_pos e1] at hf
      cases hf
    · rw [if_neg e1] at hf
      exact ⟨q.1, q.2, (arl_inv e).1, (arl_inv e).2, e1, hf⟩
theorem aR_inv {ty : FieldType} {h : AH} {r : Option Nat} {i : Int32} {K : Option Nat → Option α} {Z : α} (hf : aR ty h r i K = some Z) : ∃ a n, r = some a ∧ h.2.1 a = some (.inr (ty, n)) ∧ vp_in i n ∧ K (h.2.2.2 a i.toNatClampNeg) = some Z := by
  unfold aR at hf
  cases e : arl h r ty with
  | none => simp [e] at hf
  | some q =>
    simp only [e] at hf
    by_cases e1 : i < 0 ∨ q.2 ≤ i.toNatClampNeg
    · rw [if_pos e1] at hf
      cases hf
    · rw [if_neg e1] at hf
      exact ⟨q.1, q.2, (arl_inv e).1, (arl_inv e).2, e1, hf⟩
theorem sI_inv {ty : FieldType} {h : AH} {r : Option Nat} {i x : Int32} {K : AH → Option α} {Z : α} (hf : sI ty h r i x K = some Z) : ∃ a n, r = some a ∧ h.2.1 a = some (.inr (ty, n)) ∧ vp_in i n ∧ K (setI h a i.toNatClampNeg (vp_nar ty x)) = some Z := by
  unfold sI at hf
  cases e : arl h r ty with
  | none => simp [e] at hf
  | some q =>
    simp only [e] at hf
    by_cases e1 : i < 0 ∨ q.2 ≤ i.toNatClampNeg
    · rw [if_pos e1] at hf
      cases hf
    · rw [if_neg e1] at hf
      exact ⟨q.1, q.2, (arl_inv e).1, (arl_inv e).2, e1, hf⟩
theorem sR_inv {ty : FieldType} {ci : Nat} {h : AH} {r : Option Nat} {i : Int32} {x : Option Nat} {K : AH → Option α} {Z : α} (hf : sR ty ci h r i x K = some Z) : ∃ a n v, r = some a ∧ h.2.1 a = some (.inr (ty, n)) ∧ vp_in i n ∧ x = some v ∧ h.2.1 v = some (.inl ci) ∧ K (setR h a i.toNatClampNeg (some v)) = some Z := by
  unfold sR at hf
  cases e : arl h r ty with
  | none => simp [e] at hf
  | some q =>
    cases x with
    | none => simp [e] at hf
    | some v =>
      simp only [e] at hf
      by_cases e1 : (i < 0 ∨ q.2 ≤ i.toNatClampNeg) ∨ ¬ h.2.1 v = some (.inl ci)
      · rw [if_pos e1] at hf
        cases hf
      · rw [if_neg e1] at hf
        exact ⟨q.1, q.2, v, (arl_inv e).1, (arl_inv e).2, fun z => e1 (Or.inl z), rfl, Classical.byContradiction fun z => e1 (Or.inr z), hf⟩
theorem rcv_inv {h : AH} {r : Option Nat} {ci : Nat} {K : Nat → Option α} {Z : α} (hf : rcv h r ci K = some Z) {G : Prop} (k : ∀ a, r = some a → h.2.1 a = some (.inl ci) → K a = some Z → G) : G := by
  cases r with
  | none => cases hf
  | some a =>
    by_cases q : h.2.1 a = some (.inl ci)
    · exact k a rfl q (by simpa [rcv, q] using hf)
    · simp [rcv, q] at hf
theorem cal_inv {F : Option (α × AH)} {K : α → AH → Option β} {Z : β} (hf : cal F K = some Z) {G : Prop} (k : ∀ v h, F = some (v, h) → K v h = some Z → G) : G := by
  cases F with
  | none => cases hf
  | some q => exact k q.1 q.2 rfl hf
theorem bd_inv {x : α} {K : α → Option β} {Z : β} (hf : bd x K = some Z) : K x = some Z := hf
theorem dv_inv {x y : Int32} {K : Int32 → Option α} {Z : α} (hf : dv x y K = some Z) : ¬ y = 0 ∧ K (x / y) = some Z := by
  unfold dv at hf
  by_cases q : y = 0
  · rw [if_pos q] at hf
    cases hf
  · rw [if_neg q] at hf
    exact ⟨q, hf⟩
theorem rm_inv {x y : Int32} {K : Int32 → Option α} {Z : α} (hf : rm x y K = some Z) : ¬ y = 0 ∧ K (x - x / y * y) = some Z := by
  unfold rm at hf
  by_cases q : y = 0
  · rw [if_pos q] at hf
    cases hf
  · rw [if_neg q] at hf
    exact ⟨q, hf⟩
theorem rZ_inv {x v : Int32} {h h' : AH} (hf : rZ x h = some (v, h')) : narrow .boolean (.int x) = .int x ∧ x = v ∧ h = h' := by
  unfold rZ at hf
  by_cases q : x = 0 ∨ x = 1
  · rw [if_pos q] at hf
    cases hf
    refine ⟨?_, rfl, rfl⟩
    rcases q with rfl | rfl <;> rfl
  · rw [if_neg q] at hf
    cases hf
end FN
end
section
/-! ===== rows: an instruction over the heap of part 02 ===== -/
section RW1
variable {p : Program} {l : Launch} {e : Env} {R : Room} {s : State} {m : MethodId} {args : Array Value} {below : List Frame} {meth : Method} {c : Code} {H : Heap} {locs : List Loc} {cells slots : Nat} {Q : State → Prop}
variable {cc : ByteArray} {nL : Nat} {own : String} {D : RG} {b : Nat} {h : AH} {pc : Nat} {ls : Array Slot} {rest : List Value} {α : Type} {Z : α}
/-- a field of a class: the class's row, the field's place in the class and in own's pool, its type -/
def r_fld (ci k : Nat) (C : String) (T : u_T) (N : Nat) (ty : FieldType) : Prop := vwCl[ci]? = some (C, T, N) ∧ k < N ∧ (∀ w ∈ u_ws C T N, w ∈ wsL_law) ∧ (T k).1 = C ∧ r_ty ci k = ty ∧ parseFieldDescriptor (T k).2.2.1 = some ty ∧ (∀ k, k < N → parseFieldDescriptor (T k).2.2.1 = some (r_ty ci k)) ∧ (∀ a, a < N → ∀ b, b < N → a ≠ b → (T a).2.1 ≠ (T b).2.1)
theorem r_get0 (X : r_C p c cc nL s m args own D b) (B : r_B D b s h H locs) {ci k : Nat} {C : String} {T : u_T} {N index : Nat} {ty : FieldType} {a : Nat} (F : r_fld ci k C T N ty) (hlink : Cond.fieldLink own index C (T k).2.1 (T k).2.2.1 ∈ wsL_law) (hdg : decode cc pc = .ok (.getfield index, 3)) (hs : h.2.1 a = some (.inl ci))
    (kk : W p l e R s m args below meth c H locs cells slots Q (F0 m (pc + 3) ls (r_val ty (h.2.2.1 a k) (h.2.2.2 a k) :: rest))) : W p l e R s m args below meth c H locs cells slots Q (F0 m pc ls (.ref a :: rest)) := by
  obtain ⟨⟨hx, hb, -, hown, hts⟩, hK, -⟩ := X
  obtain ⟨hc, hk, hin, hsm, hty, -⟩ := F
  obtain ⟨-, q, hq, cell, q1, q2, q3, q4⟩ := B.1.2 a _ hs
  have hr : q = (C, T, N) := Option.some.inj (hq.symm.trans hc)
  subst hr
  obtain ⟨hS, hfc, kC, hkC, hkind⟩ := hK.1.1 ci _ hc
  obtain ⟨cf, kf, fi, f, hi, hsl⟩ := hS k hk
  refine W.getf hx hb hown (hts _ hlink) (by rw [← hsm]; exact hi) (u_facts hfc hkC (u_lays hts hin hk) hi).1 q1 (by rw [q3]; exact fun h => by cases h) ?_ rfl rfl hdg kk
  rw [← hty, hsl]
  exact q4 k hk
theorem r_gI (X : r_C p c cc nL s m args own D b) (B : r_B D b s h H locs) {ci k : Nat} {C : String} {T : u_T} {N index : Nat} {ty : FieldType} {r : Option Nat} {K : Int32 → Option α} (hf : gI h r ci k K = some Z) (F : r_fld ci k C T N ty) (hty : ∀ x y, r_val ty x y = .int x) (hlink : Cond.fieldLink own index C (T k).2.1 (T k).2.2.1 ∈ wsL_law) (hdg : decode cc pc = .ok (.getfield index, 3))
    (kk : ∀ v : Int32, K v = some Z → W p l e R s m args below meth c H locs cells slots Q (F0 m (pc + 3) ls (.int v :: rest))) : W p l e R s m args below meth c H locs cells slots Q (F0 m pc ls (va_rf r :: rest)) := by
  obtain ⟨a, rfl, hs, hf⟩ := gI_inv hf
  refine r_get0 X B F hlink hdg hs ?_
  rw [hty]
  exact kk _ hf
theorem r_gR (X : r_C p c cc nL s m args own D b) (B : r_B D b s h H locs) {ci k : Nat} {C : String} {T : u_T} {N index : Nat} {ty : FieldType} {r : Option Nat} {K : Option Nat → Option α} (hf : gR h r ci k K = some Z) (F : r_fld ci k C T N ty) (hty : ∀ x y, r_val ty x y = va_rf y) (hlink : Cond.fieldLink own index C (T k).2.1 (T k).2.2.1 ∈ wsL_law) (hdg : decode cc pc = .ok (.getfield index, 3))
    (kk : ∀ v : Option Nat, K v = some Z → W p l e R s m args below meth c H locs cells slots Q (F0 m (pc + 3) ls (va_rf v :: rest))) : W p l e R s m args below meth c H locs cells slots Q (F0 m pc ls (va_rf r :: rest)) := by
  obtain ⟨a, rfl, hs, hf⟩ := gR_inv hf
  refine r_get0 X B F hlink hdg hs ?_
  rw [hty]
  exact kk _ hf
/-- an object's slot is written -/
theorem r_put_at {ci k : Nat} {C : String} {T : u_T} {N a : Nat} {x : Int32} {y : Option Nat} {h' : AH} {H1 : Heap} {cell : Cell} (hc : vwCl[ci]? = some (C, T, N)) (hk : k < N) (q2 : cell.cls = D.1 ci) (q3 : cell.vm = .none) (q4 : ∀ k, k < N → cell.slots[D.2.1 ci k]? = some (r_val (r_ty ci k) (h.2.2.1 a k) (h.2.2.2 a k))) (hap : ∀ x y, x < N → y < N → x ≠ y → D.2.1 ci x ≠ D.2.1 ci y)
    (e1 : H1[a]? = some (cell.setSlot (D.2.1 ci k) (r_val (r_ty ci k) x y))) (g1 : ∀ j, h'.2.2.1 a j = if j = k then x else h.2.2.1 a j) (g2 : ∀ j, h'.2.2.2 a j = if j = k then y else h.2.2.2 a j) : r_at D h' a (.inl ci) H1 := by
  refine ⟨_, hc, t_OB.to (V := updV (fun k => r_val (r_ty ci k) (h.2.2.1 a k) (h.2.2.2 a k)) k (r_val (r_ty ci k) x y)) ⟨_, e1, q2, q3, t_set q4 hap hk _⟩ (fun j _ => ?_)⟩
  by_cases e : j = k
  · subst e
    simp [updV, g1, g2]
  · simp [updV, g1, g2, e]
theorem r_put0 (X : r_C p c cc nL s m args own D b) (B : r_B D b s h H locs) {ci k : Nat} {C : String} {T : u_T} {N index : Nat} {ty : FieldType} {a : Nat} {x : Int32} {y : Option Nat} (F : r_fld ci k C T N ty) (hlink : Cond.fieldLink own index C (T k).2.1 (T k).2.2.1 ∈ wsL_law) (hfin : (T k).2.2.2 = false ∨ ((T k).2.2.2 = true ∧ meth.name = "<init>" ∧ C = own)) (hn : narrow ty (r_val ty x y) = r_val ty x y) (hfit : fits ty (r_val ty x y) = true) (hdg : decode cc pc = .ok (.putfield index, 3)) (hs : h.2.1 a = some (.inl ci)) {h' : AH} (g0 : h'.1 = h.1) (gs : h'.2.1 = h.2.1) (g1 : ∀ q j, h'.2.2.1 q j = if q = a ∧ j = k then x else h.2.2.1 q j) (g2 : ∀ q j, h'.2.2.2 q j = if q = a ∧ j = k then y else h.2.2.2 q j)
    (kk : ∀ (H1 : Heap) (locs1 : List Loc), r_B D b s h' H1 locs1 → W p l e R s m args below meth c H1 locs1 cells slots Q (F0 m (pc + 3) ls rest)) : W p l e R s m args below meth c H locs cells slots Q (F0 m pc ls (r_val ty x y :: .ref a :: rest)) := by
  obtain ⟨⟨hx, hb, -, hown, hts⟩, hK, -⟩ := X
  obtain ⟨hc, hk, hin, hsm, hty, hd, hty0, hnm⟩ := F
  obtain ⟨-, q, hq, cell, q1, q2, q3, q4⟩ := B.1.2 a _ hs
  have hr : q = (C, T, N) := Option.some.inj (hq.symm.trans hc)
  subst hr
  have hap := va_apart (own := own) hts hin (r_ty ci) hty0 hnm hK.1 hc
  obtain ⟨hS, hfc, kC, hkC, hkind⟩ := hK.1.1 ci _ hc
  obtain ⟨cf, kf, fi, f, hi, hsl⟩ := hS k hk
  have hlay := hts _ (hin _ (u_in_lay hk))
  unfold u_lay at hlay
  have hst := (u_facts hfc hkC (u_lays hts hin hk) hi).1
  have f1 : ∀ q, q ≠ a → h'.2.2.1 q = h.2.2.1 q := fun q hq => by funext j; rw [g1, if_neg (fun z => hq z.1)]
  have f2 : ∀ q, q ≠ a → h'.2.2.2 q = h.2.2.2 q := fun q hq => by funext j; rw [g2, if_neg (fun z => hq z.1)]
  have d1 : ∀ j, h'.2.2.1 a j = if j = k then x else h.2.2.1 a j := fun j => by rw [g1]; simp
  have d2 : ∀ j, h'.2.2.2 a j = if j = k then y else h.2.2.2 a j := fun j => by rw [g2]; simp
  rcases hfin with hfin | ⟨hfin, hini, hco⟩
  · rw [if_neg (by rw [hfin]; decide)] at hlay
    have h6 := u_store hfc hkC hkind hlay hi hd hn hfit
    refine W.putK hx hb (f := f) (ref := C) ⟨hown, hts _ hlink, ⟨_, _, _, (by rw [← hsm]; exact hi)⟩, hst⟩ (by rw [q2]; exact h6) q1 q3 (by rw [hsl]; exact k2_hasslot (q4 k hk)) rfl rfl hdg fun H' e1 e2 e3 => ?_
    rw [hsl, ← hty] at e1
    exact kk H' _ (B.put hs e2 e3 g0 gs f1 f2 (r_put_at hc hk q2 q3 q4 hap e1 d1 d2))
  · rw [if_pos hfin] at hlay
    have hcf : m.cls = cf := by
      obtain ⟨_, _, c', _, _, _, -, -, hf', -, -, -, hown2, -⟩ := Cond.laysFinal_spec hlay
      have e1 : c' = cf := by have := hi.symm.trans hf'; simp at this; exact this.1.symm
      rw [hsm, hco] at hown2
      rw [← e1]; exact Option.some.inj (hown.symm.trans hown2)
    have h6 := u_fits hfc hkC hkind (Or.inr hlay) hi hd hn hfit
    refine W.putFinK hx hb (ref := C) hown (hts _ hlink) (by rw [← hsm]; exact hi) hst hcf hini (by rw [q2]; exact h6) q1 q3 (by rw [hsl]; exact k2_hasslot (q4 k hk)) rfl rfl hdg fun H' e1 e2 e3 => ?_
    rw [hsl, ← hty] at e1
    exact kk H' _ (B.put hs e2 e3 g0 gs f1 f2 (r_put_at hc hk q2 q3 q4 hap e1 d1 d2))
theorem setI_2 (h : AH) (a k : Nat) (x : Int32) (q j : Nat) : (setI h a k x).2.2.2 q j = if q = a ∧ j = k then h.2.2.2 a k else h.2.2.2 q j := by
  by_cases e : q = a ∧ j = k
  · rw [if_pos e, e.1, e.2]; rfl
  · rw [if_neg e]; rfl
theorem setR_1 (h : AH) (a k : Nat) (x : Option Nat) (q j : Nat) : (setR h a k x).2.2.1 q j = if q = a ∧ j = k then h.2.2.1 a k else h.2.2.1 q j := by
  by_cases e : q = a ∧ j = k
  · rw [if_pos e, e.1, e.2]; rfl
  · rw [if_neg e]; rfl
abbrev r_fin (T : u_T) (k : Nat) (meth : Method) (C own : String) : Prop := (T k).2.2.2 = false ∨ ((T k).2.2.2 = true ∧ meth.name = "<init>" ∧ C = own)
theorem r_pI (X : r_C p c cc nL s m args own D b) (B : r_B D b s h H locs) {ci k : Nat} {C : String} {T : u_T} {N index : Nat} {r : Option Nat} {x : Int32} {K : AH → Option α} (hf : pI h r ci k x K = some Z) (F : r_fld ci k C T N .int) (hfin : r_fin T k meth C own) (hlink : Cond.fieldLink own index C (T k).2.1 (T k).2.2.1 ∈ wsL_law) (hdg : decode cc pc = .ok (.putfield index, 3))
    (kk : ∀ (h' : AH) (H1 : Heap) (locs1 : List Loc), r_B D b s h' H1 locs1 → K h' = some Z → W p l e R s m args below meth c H1 locs1 cells slots Q (F0 m (pc + 3) ls rest)) : W p l e R s m args below meth c H locs cells slots Q (F0 m pc ls (.int x :: va_rf r :: rest)) := by
  obtain ⟨a, rfl, hs, hf⟩ := pI_inv hf
  exact r_put0 (y := h.2.2.2 a k) (h' := setI h a k x) X B F hlink hfin rfl rfl hdg hs rfl rfl (fun q j => rfl) (setI_2 h a k x) (fun H1 locs1 B1 => kk _ H1 locs1 B1 hf)
theorem r_pZ (X : r_C p c cc nL s m args own D b) (B : r_B D b s h H locs) {ci k : Nat} {C : String} {T : u_T} {N index : Nat} {r : Option Nat} {x : Int32} {K : AH → Option α} (hf : pZ h r ci k x K = some Z) (F : r_fld ci k C T N .boolean) (hfin : r_fin T k meth C own) (hlink : Cond.fieldLink own index C (T k).2.1 (T k).2.2.1 ∈ wsL_law) (hdg : decode cc pc = .ok (.putfield index, 3))
    (kk : ∀ (h' : AH) (H1 : Heap) (locs1 : List Loc), r_B D b s h' H1 locs1 → K h' = some Z → W p l e R s m args below meth c H1 locs1 cells slots Q (F0 m (pc + 3) ls rest)) : W p l e R s m args below meth c H locs cells slots Q (F0 m pc ls (.int x :: va_rf r :: rest)) := by
  obtain ⟨a, rfl, hs, hx, hf⟩ := pZ_inv hf
  have hn : narrow .boolean (.int x) = .int x := by rcases hx with rfl | rfl <;> rfl
  have hv : fits .boolean (.int x) = true := by rcases hx with rfl | rfl <;> rfl
  exact r_put0 (ty := .boolean) (y := h.2.2.2 a k) (h' := setI h a k x) X B F hlink hfin hn hv hdg hs rfl rfl (fun q j => rfl) (setI_2 h a k x) (fun H1 locs1 B1 => kk _ H1 locs1 B1 hf)
theorem r_pR (X : r_C p c cc nL s m args own D b) (B : r_B D b s h H locs) {ci k : Nat} {C : String} {T : u_T} {N index : Nat} {ty : FieldType} {r x : Option Nat} {K : AH → Option α} (hf : pR h r ci k x K = some Z) (F : r_fld ci k C T N ty) (hty : ty.isReference = true) (hfin : r_fin T k meth C own) (hlink : Cond.fieldLink own index C (T k).2.1 (T k).2.2.1 ∈ wsL_law) (hdg : decode cc pc = .ok (.putfield index, 3))
    (kk : ∀ (h' : AH) (H1 : Heap) (locs1 : List Loc), r_B D b s h' H1 locs1 → K h' = some Z → W p l e R s m args below meth c H1 locs1 cells slots Q (F0 m (pc + 3) ls rest)) : W p l e R s m args below meth c H locs cells slots Q (F0 m pc ls (va_rf x :: va_rf r :: rest)) := by
  obtain ⟨a, rfl, hs, hf⟩ := pR_inv hf
  have e : va_rf x = r_val ty (h.2.2.1 a k) x := by cases ty <;> first | rfl | cases hty
  rw [e]
  refine r_put0 (h' := setR h a k x) X B F hlink hfin ?_ ?_ hdg hs rfl rfl (setR_1 h a k x) (fun q j => rfl) (fun H1 locs1 B1 => kk _ H1 locs1 B1 hf)
  · rw [← e]
    cases x <;> cases ty <;> first | rfl | cases hty
  · rw [← e]
    cases x <;> cases ty <;> first | rfl | cases hty
/-! arrays -/
theorem r_cell (B : r_B D b s h H locs) {a n : Nat} {ty : FieldType} (hs : h.2.1 a = some (.inr (ty, n))) : H[a]? = some (arrV (D.2.2.1 ty) n (fun k => r_val ty (h.2.2.1 a k) (h.2.2.2 a k))) := (B.1.2 a _ hs).2
theorem r_aL (X : r_C p c cc nL s m args own D b) (B : r_B D b s h H locs) {ty : FieldType} {r : Option Nat} {K : Int32 → Option α} (hf : aL ty h r K = some Z) (ht : ty ∈ r_tys) (hdg : decode cc pc = .ok (.arraylength, 1))
    (kk : ∀ v : Int32, K v = some Z → W p l e R s m args below meth c H locs cells slots Q (F0 m (pc + 1) ls (.int v :: rest))) : W p l e R s m args below meth c H locs cells slots Q (F0 m pc ls (va_rf r :: rest)) := by
  obtain ⟨a, n, rfl, hs, hf⟩ := aL_inv hf
  exact W.alen (n := Int32.ofNat n) X.1.1 X.1.2.1 (r_cell B hs) ((X.2.1.2.1 ty ht).1 n _) (by rw [arrV_size] <;> rfl) rfl rfl hdg (kk _ hf)
theorem r_aIi (X : r_C p c cc nL s m args own D b) (B : r_B D b s h H locs) {r : Option Nat} {i : Int32} {K : Int32 → Option α} (hf : aI .int h r i K = some Z) (hdg : decode cc pc = .ok (.iaload, 1))
    (kk : ∀ v : Int32, K v = some Z → W p l e R s m args below meth c H locs cells slots Q (F0 m (pc + 1) ls (.int v :: rest))) : W p l e R s m args below meth c H locs cells slots Q (F0 m pc ls (.int i :: va_rf r :: rest)) := by
  obtain ⟨a, n, rfl, hs, hin, hf⟩ := aI_inv hf
  have hlt : i.toNatClampNeg < n := Nat.not_le.mp fun q => hin (Or.inr q)
  exact W.iald X.1.1 X.1.2.1 (r_cell B hs) ((X.2.1.2.1 .int (by decide)).1 n _) (fun q => by cases q) (by rw [arrV_size]; exact hin) (arrV_read _ _ hlt) rfl rfl hdg (kk _ hf)
theorem r_aIb (X : r_C p c cc nL s m args own D b) (B : r_B D b s h H locs) {r : Option Nat} {i : Int32} {K : Int32 → Option α} (hf : aI .byte h r i K = some Z) (hdg : decode cc pc = .ok (.baload, 1))
    (kk : ∀ v : Int32, K v = some Z → W p l e R s m args below meth c H locs cells slots Q (F0 m (pc + 1) ls (.int v :: rest))) : W p l e R s m args below meth c H locs cells slots Q (F0 m pc ls (.int i :: va_rf r :: rest)) := by
  obtain ⟨a, n, rfl, hs, hin, hf⟩ := aI_inv hf
  have hlt : i.toNatClampNeg < n := Nat.not_le.mp fun q => hin (Or.inr q)
  exact W.bald X.1.1 X.1.2.1 (r_cell B hs) ((X.2.1.2.1 .byte (by decide)).1 n _) (fun q => by cases q) (by rw [arrV_size]; exact hin) (arrV_read _ _ hlt) rfl rfl hdg (kk _ hf)
theorem r_aIz (X : r_C p c cc nL s m args own D b) (B : r_B D b s h H locs) {r : Option Nat} {i : Int32} {K : Int32 → Option α} (hf : aI .boolean h r i K = some Z) (hdg : decode cc pc = .ok (.baload, 1))
    (kk : ∀ v : Int32, K v = some Z → W p l e R s m args below meth c H locs cells slots Q (F0 m (pc + 1) ls (.int v :: rest))) : W p l e R s m args below meth c H locs cells slots Q (F0 m pc ls (.int i :: va_rf r :: rest)) := by
  obtain ⟨a, n, rfl, hs, hin, hf⟩ := aI_inv hf
  have hlt : i.toNatClampNeg < n := Nat.not_le.mp fun q => hin (Or.inr q)
  exact W.zald X.1.1 X.1.2.1 (r_cell B hs) ((X.2.1.2.1 .boolean (by decide)).1 n _) (fun q => by cases q) (by rw [arrV_size]; exact hin) (arrV_read _ _ hlt) rfl rfl hdg (kk _ hf)
theorem r_aR (X : r_C p c cc nL s m args own D b) (B : r_B D b s h H locs) {C : String} {r : Option Nat} {i : Int32} {K : Option Nat → Option α} (hf : aR (.object C) h r i K = some Z) (ht : .object C ∈ r_tys) (hdg : decode cc pc = .ok (.aaload, 1))
    (kk : ∀ v : Option Nat, K v = some Z → W p l e R s m args below meth c H locs cells slots Q (F0 m (pc + 1) ls (va_rf v :: rest))) : W p l e R s m args below meth c H locs cells slots Q (F0 m pc ls (.int i :: va_rf r :: rest)) := by
  obtain ⟨a, n, rfl, hs, hin, hf⟩ := aR_inv hf
  have hlt : i.toNatClampNeg < n := Nat.not_le.mp fun q => hin (Or.inr q)
  exact W.aald (ty := .object C) X.1.1 X.1.2.1 (r_cell B hs) ((X.2.1.2.1 _ ht).1 n _) rfl (fun q => by cases q) (by rw [arrV_size]; exact hin) (arrV_read _ _ hlt) rfl rfl hdg (kk _ hf)
theorem r_store_at {a n i : Nat} {ty : FieldType} {x : Int32} {y : Option Nat} {h' : AH} {H1 : Heap} (e : H1[a]? = some ((arrV (D.2.2.1 ty) n (fun k => r_val ty (h.2.2.1 a k) (h.2.2.2 a k))).setSlot i (r_val ty x y))) (g1 : ∀ j, h'.2.2.1 a j = if j = i then x else h.2.2.1 a j) (g2 : ∀ j, h'.2.2.2 a j = if j = i then y else h.2.2.2 a j) : r_at D h' a (.inr (ty, n)) H1 := by
  show H1[a]? = _
  rw [e, arrV_store]
  congr 2
  funext j
  by_cases hj : j = i
  · subst hj
    simp [updV, g1, g2]
  · simp [updV, g1, g2, hj]
theorem r_sIi (X : r_C p c cc nL s m args own D b) (B : r_B D b s h H locs) {r : Option Nat} {i x : Int32} {K : AH → Option α} (hf : sI .int h r i x K = some Z) (hdg : decode cc pc = .ok (.iastore, 1))
    (kk : ∀ (h' : AH) (H1 : Heap) (locs1 : List Loc), r_B D b s h' H1 locs1 → K h' = some Z → W p l e R s m args below meth c H1 locs1 cells slots Q (F0 m (pc + 1) ls rest)) : W p l e R s m args below meth c H locs cells slots Q (F0 m pc ls (.int x :: .int i :: va_rf r :: rest)) := by
  obtain ⟨a, n, rfl, hs, hin, hf⟩ := sI_inv hf
  refine W.iast X.1.1 X.1.2.1 (r_cell B hs) ((X.2.1.2.1 .int (by decide)).1 n _) (fun q => by cases q) (by rw [arrV_size]; exact hin) rfl rfl hdg fun H1 e z oq => ?_
  refine kk _ H1 _ (B.put (h' := setI h a i.toNatClampNeg (vp_nar .int x)) hs z oq rfl rfl (fun q hq => u2_ne _ _ hq) (fun q hq => rfl) (r_store_at (x := x) (y := h.2.2.2 a i.toNatClampNeg) e (fun j => u2_eq _ _ _ _ _) (fun j => ?_))) hf
  have := setI_2 h a i.toNatClampNeg (vp_nar .int x) a j
  simpa using this
theorem r_sIb (X : r_C p c cc nL s m args own D b) (B : r_B D b s h H locs) {r : Option Nat} {i x : Int32} {K : AH → Option α} (hf : sI .byte h r i x K = some Z) (hdg : decode cc pc = .ok (.bastore, 1))
    (kk : ∀ (h' : AH) (H1 : Heap) (locs1 : List Loc), r_B D b s h' H1 locs1 → K h' = some Z → W p l e R s m args below meth c H1 locs1 cells slots Q (F0 m (pc + 1) ls rest)) : W p l e R s m args below meth c H locs cells slots Q (F0 m pc ls (.int x :: .int i :: va_rf r :: rest)) := by
  obtain ⟨a, n, rfl, hs, hin, hf⟩ := sI_inv hf
  refine W.bast X.1.1 X.1.2.1 (r_cell B hs) ((X.2.1.2.1 .byte (by decide)).1 n _) (fun q => by cases q) (by rw [arrV_size]; exact hin) rfl rfl hdg fun H1 e z oq => ?_
  refine kk _ H1 _ (B.put (h' := setI h a i.toNatClampNeg (vp_nar .byte x)) hs z oq rfl rfl (fun q hq => u2_ne _ _ hq) (fun q hq => rfl) (r_store_at (x := vp_nar .byte x) (y := h.2.2.2 a i.toNatClampNeg) e (fun j => u2_eq _ _ _ _ _) (fun j => ?_))) hf
  have := setI_2 h a i.toNatClampNeg (vp_nar .byte x) a j
  simpa using this
theorem r_sIz (X : r_C p c cc nL s m args own D b) (B : r_B D b s h H locs) {r : Option Nat} {i x : Int32} {K : AH → Option α} (hf : sI .boolean h r i x K = some Z) (hdg : decode cc pc = .ok (.bastore, 1))
    (kk : ∀ (h' : AH) (H1 : Heap) (locs1 : List Loc), r_B D b s h' H1 locs1 → K h' = some Z → W p l e R s m args below meth c H1 locs1 cells slots Q (F0 m (pc + 1) ls rest)) : W p l e R s m args below meth c H locs cells slots Q (F0 m pc ls (.int x :: .int i :: va_rf r :: rest)) := by
  obtain ⟨a, n, rfl, hs, hin, hf⟩ := sI_inv hf
  refine W.zast X.1.1 X.1.2.1 (r_cell B hs) ((X.2.1.2.1 .boolean (by decide)).1 n _) (fun q => by cases q) (by rw [arrV_size]; exact hin) rfl rfl hdg fun H1 e z oq => ?_
  refine kk _ H1 _ (B.put (h' := setI h a i.toNatClampNeg (vp_nar .boolean x)) hs z oq rfl rfl (fun q hq => u2_ne _ _ hq) (fun q hq => rfl) (r_store_at (x := vp_nar .boolean x) (y := h.2.2.2 a i.toNatClampNeg) e (fun j => u2_eq _ _ _ _ _) (fun j => ?_))) hf
  have := setI_2 h a i.toNatClampNeg (vp_nar .boolean x) a j
  simpa using this
theorem r_sR (X : r_C p c cc nL s m args own D b) (B : r_B D b s h H locs) {ci : Nat} {C : String} {T : u_T} {N : Nat} {r x : Option Nat} {i : Int32} {K : AH → Option α} (hf : sR (.object C) ci h r i x K = some Z) (ht : .object C ∈ r_tys) (hc : vwCl[ci]? = some (C, T, N)) (hdg : decode cc pc = .ok (.aastore, 1))
    (kk : ∀ (h' : AH) (H1 : Heap) (locs1 : List Loc), r_B D b s h' H1 locs1 → K h' = some Z → W p l e R s m args below meth c H1 locs1 cells slots Q (F0 m (pc + 1) ls rest)) : W p l e R s m args below meth c H locs cells slots Q (F0 m pc ls (va_rf x :: .int i :: va_rf r :: rest)) := by
  obtain ⟨a, n, v, rfl, hs, hin, rfl, hv, hf⟩ := sR_inv hf
  have hlt : i.toNatClampNeg < n := Nat.not_le.mp fun q => hin (Or.inr q)
  have h0 : ¬ i < 0 := fun q => hin (Or.inl q)
  obtain ⟨r', hr', cellV, g1, g2, g3, -⟩ := (B.1.2 v _ hv).2
  have hcls := (X.2.1.1.1 ci _ hc).2
  obtain ⟨kA, comp, k1, k2, k3, -⟩ := (X.2.1.2.1 _ ht).2
  have hcomp : comp = D.1 ci := Option.some.inj (k3.symm.trans hcls.1)
  subst hcomp
  obtain ⟨kC, hkC, -⟩ := hcls.2
  refine W.aast X.1.1 X.1.2.1 (r_cell B hs) (fun q h => by cases h) (fun h => by cases h) k1 k2 rfl hkC ⟨h0, by rw [arrV_size]; exact hlt⟩ g1 (fun q h => by rw [g3] at h; cases h) (by rw [g2]; exact hkC) (by rw [g2]; exact va_assign hcls) rfl rfl hdg fun H1 e z oq => ?_
  refine kk _ H1 _ (B.put (h' := setR h a i.toNatClampNeg (some v)) hs z oq rfl rfl (fun q hq => rfl) (fun q hq => u2_ne _ _ hq) (r_store_at (x := h.2.2.1 a i.toNatClampNeg) (y := some v) e (fun j => ?_) (fun j => u2_eq _ _ _ _ _))) hf
  have := setR_1 h a i.toNatClampNeg (some v) a j
  simpa using this
end RW1
end
section
/-! ===== rows: locals and branches, new cells, calls, a method's start and end ===== -/
theorem va_cat (r : Option Nat) : (va_rf r).category = 1 := by cases r <;> rfl
def mx (x y : Int32) : Int32 := if x < y then y else x
def mn (x y : Int32) : Int32 := if y < x then y else x
section RW2
variable {p : Program} {l : Launch} {e : Env} {R : Room} {s : State} {m : MethodId} {args : Array Value} {below : List Frame} {meth : Method} {c : Code} {H : Heap} {locs : List Loc} {cells slots : Nat} {Q : State → Prop}
variable {cc : ByteArray} {nL : Nat} {own : String} {D : RG} {b : Nat} {h : AH} {pc : Nat} {ls : Array Slot} {rest : List Value} {α : Type} {Z : α}
theorem r_aload_n (hexec : p.tables.exec = Jvm.exec) (hb : c.code = cc) {k : Fin 4} {i : Nat} {r : Option Nat} (hdg : decode cc pc = .ok (.aload_n k, 1)) (hi : (k : Nat) = i) (hl : ls[i]? = some (.val (va_rf r)))
    (kk : W p l e R s m args below meth c H locs cells slots Q (F0 m (pc + 1) ls (va_rf r :: rest))) : W p l e R s m args below meth c H locs cells slots Q (F0 m pc ls rest) := by
  cases r with
  | none => exact lv_aload_nN hexec hb hdg hi hl kk
  | some a => exact lv_aload_n hexec hb hdg hi hl kk
theorem r_aload (hexec : p.tables.exec = Jvm.exec) (hb : c.code = cc) {i : Nat} {r : Option Nat} (hdg : decode cc pc = .ok (.aload i, 2)) (hl : ls[i]? = some (.val (va_rf r)))
    (kk : W p l e R s m args below meth c H locs cells slots Q (F0 m (pc + 2) ls (va_rf r :: rest))) : W p l e R s m args below meth c H locs cells slots Q (F0 m pc ls rest) := by
  cases r with
  | none => exact lv_aloadN hexec hb hdg hl kk
  | some a => exact lv_aload hexec hb hdg hl kk
theorem r_astore_n (hexec : p.tables.exec = Jvm.exec) (hb : c.code = cc) {k : Fin 4} {i nL : Nat} {r : Option Nat} {lv lv' : List (Nat × Value)} (hdg : decode cc pc = .ok (.astore_n k, 1)) (hi : (k : Nat) = i) (h : lv_has ls nL lv) (hn : i < nL) (hl : (i, va_rf r) :: lv.filter (fun q => !(q.1 == i) && !(q.1 + 1 == i && q.2.category == 2)) = lv')
    (kk : ∀ ls' : Array Slot, lv_has ls' nL lv' → W p l e R s m args below meth c H locs cells slots Q (F0 m (pc + 1) ls' rest)) : W p l e R s m args below meth c H locs cells slots Q (F0 m pc ls (va_rf r :: rest)) := by
  cases r with
  | none => exact lv_astore_nN hexec hb hdg hi h hn hl kk
  | some a => exact lv_astore_n hexec hb hdg hi h hn hl kk
theorem r_astore (hexec : p.tables.exec = Jvm.exec) (hb : c.code = cc) {i nL : Nat} {r : Option Nat} {lv lv' : List (Nat × Value)} (hdg : decode cc pc = .ok (.astore i, 2)) (h : lv_has ls nL lv) (hn : i < nL) (hl : (i, va_rf r) :: lv.filter (fun q => !(q.1 == i) && !(q.1 + 1 == i && q.2.category == 2)) = lv')
    (kk : ∀ ls' : Array Slot, lv_has ls' nL lv' → W p l e R s m args below meth c H locs cells slots Q (F0 m (pc + 2) ls' rest)) : W p l e R s m args below meth c H locs cells slots Q (F0 m pc ls (va_rf r :: rest)) := by
  cases r with
  | none => exact lv_astoreN hexec hb hdg h hn hl kk
  | some a => exact lv_astore hexec hb hdg h hn hl kk
theorem r_null (hexec : p.tables.exec = Jvm.exec) (hb : c.code = cc) (hdg : decode cc pc = .ok (.aconst_null, 1)) (kk : W p l e R s m args below meth c H locs cells slots Q (F0 m (pc + 1) ls (va_rf none :: rest))) : W p l e R s m args below meth c H locs cells slots Q (F0 m pc ls rest) := lv_null hexec hb hdg kk
theorem r_ifnull (hexec : p.tables.exec = Jvm.exec) (hb : c.code = cc) {r : Option Nat} {A1 A2 : Option α} {off : Int} {tgt : Nat} (hf : nul r A1 A2 = some Z) (hdg : decode cc pc = .ok (.ifnull off, 3)) (ht : (pc : Int) + off = (tgt : Int))
    (k1 : A1 = some Z → r = none → W p l e R s m args below meth c H locs cells slots Q (F0 m tgt ls rest)) (k2 : A2 = some Z → (∃ a, r = some a) → W p l e R s m args below meth c H locs cells slots Q (F0 m (pc + 3) ls rest)) : W p l e R s m args below meth c H locs cells slots Q (F0 m pc ls (va_rf r :: rest)) := by
  cases r with
  | none => exact lv_ifnullN hexec hb hdg ht (k1 hf rfl)
  | some a => exact lv_ifnull hexec hb hdg (k2 hf ⟨a, rfl⟩)
theorem r_ifnonnull (hexec : p.tables.exec = Jvm.exec) (hb : c.code = cc) {r : Option Nat} {A1 A2 : Option α} {off : Int} {tgt : Nat} (hf : nul r A1 A2 = some Z) (hdg : decode cc pc = .ok (.ifnonnull off, 3)) (ht : (pc : Int) + off = (tgt : Int))
    (k1 : A1 = some Z → r = none → W p l e R s m args below meth c H locs cells slots Q (F0 m (pc + 3) ls rest)) (k2 : A2 = some Z → (∃ a, r = some a) → W p l e R s m args below meth c H locs cells slots Q (F0 m tgt ls rest)) : W p l e R s m args below meth c H locs cells slots Q (F0 m pc ls (va_rf r :: rest)) := by
  cases r with
  | none => exact lv_ifnonnullN hexec hb hdg (k1 hf rfl)
  | some a => exact lv_ifnonnull hexec hb hdg ht (k2 hf ⟨a, rfl⟩)
/-- a choice in the function -/
theorem r_ite {P : Prop} [Decidable P] {A1 A2 : Option α} (hf : (if P then A1 else A2) = some Z) : (P → A1 = some Z) ∧ (¬ P → A2 = some Z) := by
  by_cases q : P
  · rw [if_pos q] at hf
    exact ⟨fun _ => hf, fun z => absurd q z⟩
  · rw [if_neg q] at hf
    exact ⟨fun z => absurd z q, fun _ => hf⟩
theorem r_div (hexec : p.tables.exec = Jvm.exec) (hb : c.code = cc) {x y : Int32} {K : Int32 → Option α} (hf : dv x y K = some Z) (hdg : decode cc pc = .ok (.idiv, 1))
    (kk : ∀ v : Int32, K v = some Z → W p l e R s m args below meth c H locs cells slots Q (F0 m (pc + 1) ls (.int v :: rest))) : W p l e R s m args below meth c H locs cells slots Q (F0 m pc ls (.int y :: .int x :: rest)) :=
  lv_idiv hexec hb hdg (dv_inv hf).1 (kk _ (dv_inv hf).2)
theorem r_rem (hexec : p.tables.exec = Jvm.exec) (hb : c.code = cc) {x y : Int32} {K : Int32 → Option α} (hf : rm x y K = some Z) (hdg : decode cc pc = .ok (.irem, 1))
    (kk : ∀ v : Int32, K v = some Z → W p l e R s m args below meth c H locs cells slots Q (F0 m (pc + 1) ls (.int v :: rest))) : W p l e R s m args below meth c H locs cells slots Q (F0 m pc ls (.int y :: .int x :: rest)) :=
  lv_irem hexec hb hdg (rm_inv hf).1 (kk _ (rm_inv hf).2)
/-- a name for what is on the stack -/
theorem r_bd {x : Int32} {K : Int32 → Option α} (hf : bd x K = some Z) (kk : ∀ v : Int32, K v = some Z → W p l e R s m args below meth c H locs cells slots Q (F0 m pc ls (.int v :: rest))) : W p l e R s m args below meth c H locs cells slots Q (F0 m pc ls (.int x :: rest)) := kk x hf
theorem r_bdl {x : Int64} {K : Int64 → Option α} (hf : bd x K = some Z) (kk : ∀ v : Int64, K v = some Z → W p l e R s m args below meth c H locs cells slots Q (F0 m pc ls (.long v :: rest))) : W p l e R s m args below meth c H locs cells slots Q (F0 m pc ls (.long x :: rest)) := kk x hf
/-- a local grows -/
theorem r_iinc (hexec : p.tables.exec = Jvm.exec) (hb : c.code = cc) {i nL k : Nat} {n : Int} {x d : Int32} {lv : List (Nat × Value)} {lv' : Int32 → List (Nat × Value)} {K : Int32 → Option α} (hf : bd (x + d) K = some Z) (hdg : decode cc pc = .ok (.iinc i n, 3)) (h : lv_has ls nL lv) (hk : lv[k]? = some (i, .int x)) (hd : Int32.ofInt n = d) (hn : i < nL) (hl : ∀ v : Int32, (i, Value.int v) :: lv.filter (fun q => !(q.1 == i) && !(q.1 + 1 == i && q.2.category == 2)) = lv' v)
    (kk : ∀ (v : Int32) (ls' : Array Slot), lv_has ls' nL (lv' v) → K v = some Z → W p l e R s m args below meth c H locs cells slots Q (F0 m (pc + 3) ls' rest)) : W p l e R s m args below meth c H locs cells slots Q (F0 m pc ls rest) :=
  lv_iinc hexec hb hdg h hk (v := x + d) (by rw [hd]) hn (hl _) (fun ls' h' => kk _ ls' h' hf)
/-! new cells -/
def nO (h : AH) (ci : Nat) (K : Nat → AH → Option α) : Option α := K h.1 (newS h (.inl ci))
/-- an array of n cells -/
def nA (h : AH) (ty : FieldType) (x : Int32) (N : Nat) (K : Nat → AH → Option α) : Option α := if x < 0 ∨ N < x.toNatClampNeg then none else K h.1 (newS h (.inr (ty, x.toNatClampNeg)))
theorem r_new (X : r_C p c cc nL s m args own D b) (B : r_B D b s h H locs) {ci : Nat} {C : String} {T : u_T} {N index : Nat} {K : Nat → AH → Option α} (hf : nO h ci K = some Z) (hc : vwCl[ci]? = some (C, T, N)) (hin : ∀ w ∈ u_ws C T N, w ∈ wsL_law) (hty : ∀ k, k < N → parseFieldDescriptor (T k).2.2.1 = some (r_ty ci k)) (hcl : Cond.classLink own index C ∈ wsL_law) (hinst : Cond.instantiable C N ∈ wsL_law) (hini : Cond.initialized C ∈ wsL_law) (hcells : cells + 1 ≤ R.cells) (hslots : slots + N ≤ R.slots) (hdg : decode cc pc = .ok (.new index, 3))
    (hdf : ∀ k, k < N → defaultValue (r_ty ci k) = r_val (r_ty ci k) 0 none)
    (kk : ∀ (a : Nat) (h' : AH) (H1 : Heap), r_B D b s h' H1 locs → K a h' = some Z → W p l e R s m args below meth c H1 locs (cells + 1) (slots + N) Q (F0 m (pc + 3) ls (va_rf (some a) :: rest))) : W p l e R s m args below meth c H locs cells slots Q (F0 m pc ls rest) := by
  obtain ⟨⟨hx, hb, -, hown, hts⟩, hK, -, hbs⟩ := X
  have hKn := hK.1.1 ci _ hc
  refine W.newcK hx hb hown (hts _ hcl) (hts _ hinst) (hts _ hini) rfl hdg hcells hslots hKn.2.1 B.1.1 fun H1 kC hkC e1 z1 o1 => ?_
  refine kk h.1 _ H1 (B.new (t := .inl ci) hbs z1 o1 ⟨_, hc, ?_⟩) hf
  refine (u_born (r_ty ci) hts hin hKn hkC e1 hty).to (fun k hk => ?_)
  simp [newS]
  exact hdf k hk
theorem r_newA (X : r_C p c cc nL s m args own D b) (B : r_B D b s h H locs) {atype : ArrayType} {ty : FieldType} {x : Int32} {N : Nat} {K : Nat → AH → Option α} (hf : nA h ty x N K = some Z) (hat : newarray.typeOf atype = ty) (ht : ty ∈ r_tys) (harr : Cond.arrayClass ty ∈ wsL_law) (hN : N * componentBytes ty ≤ 536870912) (hcells : cells + 1 ≤ R.cells) (hslots : slots + N ≤ R.slots) (hdf : defaultValue ty = r_val ty 0 none) (hRA : ∀ U cA, va_RA U cA ty → U.vm.findClass ("[" ++ ty.toString) = some cA) (hdg : decode cc pc = .ok (.newarray atype, 2))
    (kk : ∀ (a : Nat) (h' : AH) (H1 : Heap), r_B D b s h' H1 locs → K a h' = some Z → W p l e R s m args below meth c H1 locs (cells + 1) (slots + N) Q (F0 m (pc + 2) ls (va_rf (some a) :: rest))) : W p l e R s m args below meth c H locs cells slots Q (F0 m pc ls (.int x :: rest)) := by
  obtain ⟨⟨hx, hb, -, hown, hts⟩, hK, -, hbs⟩ := X
  subst hat
  unfold nA at hf
  by_cases q : x < 0 ∨ N < x.toNatClampNeg
  · rw [if_pos q] at hf
    cases hf
  · rw [if_neg q] at hf
    have hx0 : ¬ x < 0 := fun z => q (Or.inl z)
    have hxN : x.toNatClampNeg ≤ N := Nat.not_lt.mp fun z => q (Or.inr z)
    refine va_newaK hx hb (hts _ harr) rfl hdg rfl hx0 rfl (Nat.le_trans (Nat.mul_le_mul_right _ hxN) hN) hcells (by omega) B.1.1 fun H1 cA e1 z1 o1 hAr hNm => ?_
    refine W.widen (k := cells + 1) (n := slots + N) (Nat.le_refl _) (by omega) ?_
    refine kk h.1 _ H1 (B.new (t := .inr (newarray.typeOf atype, x.toNatClampNeg)) hbs z1 o1 ?_) hf
    have hcA : cA = D.2.2.1 (newarray.typeOf atype) := Option.some.inj (hNm.symm.trans (hRA _ _ (hK.2.1 _ ht).2))
    subst hcA
    show H1[h.1]? = _
    rw [e1, hdf]
    congr 2
    funext k
    simp [newS]
theorem r_newQ (X : r_C p c cc nL s m args own D b) (B : r_B D b s h H locs) {C : String} {index : Nat} {x : Int32} {N : Nat} {K : Nat → AH → Option α} (hf : nA h (.object C) x N K = some Z) (ht : .object C ∈ r_tys) (hcl : Cond.classLink own index C ∈ wsL_law) (hov : va_AO C s) (hN : N * 4 ≤ 536870912) (hcells : cells + 1 ≤ R.cells) (hslots : slots + N ≤ R.slots) (hdg : decode cc pc = .ok (.anewarray index, 3))
    (kk : ∀ (a : Nat) (h' : AH) (H1 : Heap), r_B D b s h' H1 locs → K a h' = some Z → W p l e R s m args below meth c H1 locs (cells + 1) (slots + N) Q (F0 m (pc + 3) ls (va_rf (some a) :: rest))) : W p l e R s m args below meth c H locs cells slots Q (F0 m pc ls (.int x :: rest)) := by
  obtain ⟨⟨hx, hb, -, hown, hts⟩, hK, -, hbs⟩ := X
  unfold nA at hf
  by_cases q : x < 0 ∨ N < x.toNatClampNeg
  · rw [if_pos q] at hf
    cases hf
  · rw [if_neg q] at hf
    have hx0 : ¬ x < 0 := fun z => q (Or.inl z)
    have hxN : x.toNatClampNeg ≤ N := Nat.not_lt.mp fun z => q (Or.inr z)
    refine W.anew hx hb hown (hts _ hcl) (va_AO.use hov) rfl hdg rfl hx0 (by omega) hcells (by omega) fun cA kA comp f1 f2 f3 f4 => ?_
    generalize hH1 : H.push ({ cls := cA, slots := Array.replicate x.toNatClampNeg .null, vm := .none } : Cell) = H1
    have z1 : H1.size = h.1 + 1 := by rw [← hH1, Array.size_push, B.1.1]
    have e1 : H1[h.1]? = some (arrV cA x.toNatClampNeg (fun _ => .null)) := by rw [← hH1, ← B.1.1, Array.getElem?_push_size, ← arrV_new]
    have o1 : ∀ q : Nat, q < h.1 → H1[q]? = H[q]? := fun q hq => by rw [← hH1, Array.getElem?_push, if_neg (by rw [B.1.1]; exact Nat.ne_of_lt hq)]
    refine W.widen (k := cells + 1) (n := slots + N) (Nat.le_refl _) (by omega) ?_
    have hsz : H.size = h.1 := B.1.1
    rw [hsz]
    refine kk h.1 _ H1 (B.new (t := .inr (.object C, x.toNatClampNeg)) hbs z1 o1 ?_) hf
    obtain ⟨kA', comp', g1, g2, g3, g4⟩ := (hK.2.1 _ ht).2
    have hcA : cA = D.2.2.1 (.object C) := Option.some.inj (f1.symm.trans g4)
    subst hcA
    show H1[h.1]? = _
    rw [e1]
    congr 2
    funext k
    simp [newS, r_val, va_rf]
/-! calls -/
theorem r_call (B : r_B D b s h H locs) {st0 : List Value} {mc ms : Nat} {v : Option Value} {h' : AH} {a : Array Value} (hr : va_Run p l e R s m args below meth c H locs cells slots mc ms (F0 m pc ls st0) rest (r_Q D b v h' a) (fun q => b ≤ q))
    (kk : ∀ (H1 : Heap) (locs1 : List Loc), r_B D b s h' H1 locs1 → W p l e R s m args below meth c H1 locs1 (cells + mc) (slots + ms) Q (F0 m (pc + 3) ls (v.toList ++ rest))) : W p l e R s m args below meth c H locs cells slots Q (F0 m pc ls st0) := by
  intro T hT X
  obtain ⟨v', st₀, t, T', L, h0, X', hL, e1, e2, ⟨hv, hp, hz, hk⟩, st⟩ := hr T hT X
  cases hv
  rw [h0] at hz hk
  obtain ⟨hP, hS⟩ := B
  obtain ⟨t2, a1, b1⟩ := kk T'.heap (locs ++ L) ⟨by rw [e1]; exact hp, Nat.le_trans hS.1 (by rw [e1]; exact hz), fun q h1 h2 => by rw [e1, hk q (Nat.lt_of_lt_of_le h1 hS.1) h2]; exact hS.2.1 q h1 h2, fun q hq => by
      rcases List.mem_append.mp hq with h | h
      · exact hS.2.2 q h
      · exact hL q h⟩ T' rfl X'
  exact ⟨t2, st t2 a1, b1⟩
theorem r_cwV (X : r_C p c cc nL s m args own D b) {y : MethodName} {bytes : ByteArray} {maxL index n mc ms : Nat} {ret : Option FieldType} {rm : Room} {C : String} (hC : y.cls = C) (h1 : Cond.methodLink own index y ∈ wsL_law) (h2 : Cond.instanceMethod y ∈ wsL_law) (h3 : Cond.selects C y y ∈ wsL_law) (h4 : Cond.initialized C ∈ wsL_law) (h5 : Cond.code y bytes maxL ret ∈ wsL_law) (hrc : rm.cells = mc) (hrs : rm.slots = ms)
    (hd : y.cls ≠ "java/lang/invoke/MethodHandle" ∧ y.cls ≠ "java/lang/invoke/VarHandle" ∧ (parseMethodDescriptor y.desc).map (fun d => d.parameters.length) = some n) (hR : rm.frames + 1 ≤ R.frames ∧ 8 + (maxL + 11) + rm.locals ≤ R.locals) : CallW R s args own C index y bytes maxL ret (Cond.code y bytes maxL ret :: wsL_law) rm mc ms n := by
  obtain ⟨⟨-, -, -, -, hts⟩, -⟩ := X
  exact ⟨callB_of n hts (r_good h5) rfl hrc hrs (by rw [hC]; exact hts _ h4) (hts _ h1) hd hR, hts _ h2, hts _ h3⟩
theorem r_cwS (X : r_C p c cc nL s m args own D b) {y : MethodName} {bytes : ByteArray} {maxL index n mc ms : Nat} {ret : Option FieldType} {rm : Room} (h1 : Cond.methodLink own index y ∈ wsL_law) (h2 : Cond.static y ∈ wsL_law) (h4 : Cond.initialized y.cls ∈ wsL_law) (h5 : Cond.code y bytes maxL ret ∈ wsL_law) (hrc : rm.cells = mc) (hrs : rm.slots = ms)
    (hd : y.cls ≠ "java/lang/invoke/MethodHandle" ∧ y.cls ≠ "java/lang/invoke/VarHandle" ∧ (parseMethodDescriptor y.desc).map (fun d => d.parameters.length) = some n) (hR : rm.frames + 1 ≤ R.frames ∧ 8 + (maxL + 11) + rm.locals ≤ R.locals) : CallB R s args own index y bytes maxL ret (Cond.code y bytes maxL ret :: wsL_law) rm mc ms n ∧ (Cond.static y).before args s = true := by
  obtain ⟨⟨-, -, -, -, hts⟩, -⟩ := X
  exact ⟨callB_of n hts (r_good h5) rfl hrc hrs (hts _ h4) (hts _ h1) hd hR, hts _ h2⟩
theorem r_cwI (X : r_C p c cc nL s m args own D b) {y : MethodName} {bytes : ByteArray} {maxL index n mc ms : Nat} {ret : Option FieldType} {rm : Room} (hy : y.name = "<init>") (h1 : Cond.methodLink own index y ∈ wsL_law) (h2 : Cond.instanceMethod y ∈ wsL_law) (h4 : Cond.initialized y.cls ∈ wsL_law) (h5 : Cond.code y bytes maxL ret ∈ wsL_law) (hrc : rm.cells = mc) (hrs : rm.slots = ms)
    (hd : y.cls ≠ "java/lang/invoke/MethodHandle" ∧ y.cls ≠ "java/lang/invoke/VarHandle" ∧ (parseMethodDescriptor y.desc).map (fun d => d.parameters.length) = some n) (hR : rm.frames + 1 ≤ R.frames ∧ 8 + (maxL + 11) + rm.locals ≤ R.locals) : CallB R s args own index y bytes maxL ret (Cond.code y bytes maxL ret :: wsL_law) rm mc ms n ∧ y.name = "<init>" ∧ (Cond.instanceMethod y).before args s = true := by
  obtain ⟨⟨-, -, -, -, hts⟩, -⟩ := X
  exact ⟨callB_of n hts (r_good h5) rfl hrc hrs (hts _ h4) (hts _ h1) hd hR, hy, hts _ h2⟩
theorem r_cwN (X : r_C p c cc nL s m args own D b) {y : MethodName} {bytes : ByteArray} {maxL index n mc ms : Nat} {ret : Option FieldType} {rm : Room} {host : String} (hy : y.name = "<init>") (h1 : Cond.methodLinkNest own index y host ∈ r_nw) (h2 : Cond.instanceMethod y ∈ wsL_law) (h4 : Cond.initialized y.cls ∈ wsL_law) (h5 : Cond.code y bytes maxL ret ∈ wsL_law) (hrc : rm.cells = mc) (hrs : rm.slots = ms)
    (hd : y.cls ≠ "java/lang/invoke/MethodHandle" ∧ y.cls ≠ "java/lang/invoke/VarHandle" ∧ (parseMethodDescriptor y.desc).map (fun d => d.parameters.length) = some n) (hR : rm.frames + 1 ≤ R.frames ∧ 8 + (maxL + 11) + rm.locals ≤ R.locals) : va_CN R s args own index y host bytes maxL ret (Cond.code y bytes maxL ret :: wsL_law) rm mc ms n ∧ y.name = "<init>" ∧ (Cond.instanceMethod y).before args s = true := by
  obtain ⟨⟨-, -, -, -, hts⟩, hK, -⟩ := X
  exact ⟨va_cnB n hts (r_good h5) rfl hrc hrs (hK.2.2.1 _ h1) (hts _ h4) hd hR, hy, hts _ h2⟩
theorem r_preS (X : r_C p c cc nL s m args own D b) (B : r_B D b s h H locs) (As : List Value) : PreS s H (va_Pc As (r_I D b h)) As := ⟨r_blind As, fun U hU hW => ⟨rfl, r_go X B hU hW⟩⟩
theorem r_preV (X : r_C p c cc nL s m args own D b) (B : r_B D b s h H locs) {a ci : Nat} {C : String} {T : u_T} {N : Nat} (hs : h.2.1 a = some (.inl ci)) (hc : vwCl[ci]? = some (C, T, N)) (As : List Value) : PreV s H C a (va_Pc (.ref a :: As) (r_I D b h)) As := by
  refine ⟨r_blind _, ?_, fun U hU hW => ⟨rfl, r_go X B hU hW⟩⟩
  obtain ⟨-, q, hq, cell, q1, q2, q3, -⟩ := B.1.2 a _ hs
  cases hq.symm.trans hc
  exact ⟨cell, q1, by rw [q3]; rfl, by rw [q2]; exact (X.2.1.1.1 ci _ hc).2.1⟩
/-! a method's start and end -/
theorem r_ofW {y : MethodName} {cc : ByteArray} {maxL : Nat} {ret : Option FieldType} {rm : Room} {Qc : Array Value → State → Outcome → State → Prop} {mc ms : Nat} {As : List Value} (hy : plainName y.cls = true) (hA : (lg_sl As).length ≤ maxL)
    (body : ∀ (p : Program) (e : Env) (s : State) (m : MethodId) (args : Array Value) (below : List Frame) (meth : Method) (c : Code) (ls : Array Slot), r_C p c cc maxL s m args y.cls D b → r_B D b s h s.heap [] → meth.sig.returnType = ret → meth.locks = false → meth.name = y.name → lv_has ls maxL (lv_args 0 As) →
      W p l e rm s m args below meth c s.heap [] 0 0 (MQ below Qc args s mc ms (fun q => b ≤ q)) (F0 m 0 ls [])) : Met l y (Cond.code y cc maxL ret :: wsL_law) rm (va_Pc As (r_I D b h)) Qc mc ms (fun q => b ≤ q) := by
  refine Met.ofW (cc := cc) (maxL := maxL) (ret := ret) hy rfl ?_
  intro p e s m args below meth c s₁ B hml hv
  obtain ⟨rfl, hK, hE, hbs, hP⟩ := hv
  have hts := atoms_spec (ws := Cond.code y cc maxL ret :: wsL_law) B.pre
  rw [lg_entry_eq]
  exact body p e s m _ below meth c _ ⟨⟨B.exec, B.bytes, hml, findClass_of_methodNamed B.named, fun w hw => hts w (List.mem_cons_of_mem _ hw)⟩, hK, hE, hbs⟩ ⟨hP, va_S.rf⟩ B.returns B.notSynchronized (name_of_methodNamed B.named B.method).1 (lv_entry As hA)
theorem r_endQ (B : r_B D b s h H locs) (v : Option Value) : ∀ t : State, t.heap = H → s.WarmedH t.vm → r_Q D b v h args s (.returned v) t := fun t ht _ => ⟨rfl, by rw [ht]; exact B.1, B.2.F ht⟩
theorem r_endL (B : r_B D b s h H locs) : ∀ q ∈ locs, b ≤ q.base := B.2.2.2
theorem r_iret (X : r_C p c cc nL s m args own D b) (B : r_B D b s h H locs) (hr : meth.sig.returnType = some .int) (hlocks : meth.locks = false) {x v : Int32} {h' : AH} (hf : some (x, h) = some (v, h')) (hdg : decode cc pc = .ok (.ireturn, 1)) : W p l e R s m args below meth c H locs cells slots (MQ below (r_Q D b (some (.int v)) h') args s cells slots (fun q => b ≤ q)) (F0 m pc ls [.int x]) := by
  cases hf
  exact W.iret X.1.1 X.1.2.1 hr (r_endQ B _) (r_endL B) hdg
theorem r_zret (X : r_C p c cc nL s m args own D b) (B : r_B D b s h H locs) (hr : meth.sig.returnType = some .boolean) (hlocks : meth.locks = false) {x v : Int32} {h' : AH} (hf : rZ x h = some (v, h')) (hdg : decode cc pc = .ok (.ireturn, 1)) : W p l e R s m args below meth c H locs cells slots (MQ below (r_Q D b (some (.int v)) h') args s cells slots (fun q => b ≤ q)) (F0 m pc ls [.int x]) := by
  obtain ⟨hn, rfl, rfl⟩ := rZ_inv hf
  exact W.zret X.1.1 X.1.2.1 hr hn (r_endQ B _) (r_endL B) hdg
theorem r_lret (X : r_C p c cc nL s m args own D b) (B : r_B D b s h H locs) (hr : meth.sig.returnType = some .long) (hlocks : meth.locks = false) {x v : Int64} {h' : AH} (hf : some (x, h) = some (v, h')) (hdg : decode cc pc = .ok (.lreturn, 1)) : W p l e R s m args below meth c H locs cells slots (MQ below (r_Q D b (some (.long v)) h') args s cells slots (fun q => b ≤ q)) (F0 m pc ls [.long x]) := by
  cases hf
  exact W.lret X.1.1 X.1.2.1 hr (r_endQ B _) (r_endL B) hdg
theorem r_aret (X : r_C p c cc nL s m args own D b) (B : r_B D b s h H locs) {C : String} (hr : meth.sig.returnType = some (.object C)) (hlocks : meth.locks = false) {x v : Option Nat} {h' : AH} (hf : some (x, h) = some (v, h')) (hdg : decode cc pc = .ok (.areturn, 1)) : W p l e R s m args below meth c H locs cells slots (MQ below (r_Q D b (some (va_rf v)) h') args s cells slots (fun q => b ≤ q)) (F0 m pc ls [va_rf x]) := by
  cases hf
  exact W.aret X.1.1 X.1.2.1 hr (Or.inl ⟨_, rfl⟩) (va_rf_or x) (r_endQ B _) (r_endL B) hdg
theorem r_vret (X : r_C p c cc nL s m args own D b) (B : r_B D b s h H locs) (hr : meth.sig.returnType = none) (hlocks : meth.locks = false) {v : Unit} {h' : AH} (hf : some ((), h) = some (v, h')) (hdg : decode cc pc = .ok (.return_, 1)) : W p l e R s m args below meth c H locs cells slots (MQ below (r_Q D b none h') args s cells slots (fun q => b ≤ q)) (F0 m pc ls []) := by
  cases hf
  exact W.vret X.1.1 X.1.2.1 hr (r_endQ B _) (r_endL B) hdg
end RW2
end
section
/-! written by wip/whole/gen.py: words by their places, fields, small functions -/
def FU : Nat := 1000
theorem wr_in : ∀ w ∈ (wsL_law_r1 ++ (wsL_law_r2 ++ (wsL_law_r3 ++ (wsL_law_r4 ++ (wsL_law_r5 ++ (wsL_law_r6 ++ (wsL_law_r7 ++ (wsL_law_r8 ++ (wsL_law_r9 ++ (wsL_law_r10 ++ (wsL_law_r11 ++ (wsL_law_r12 ++ (wsL_law_r13 ++ (wsL_law_r14 ++ (wsL_law_r15 ++ (wsL_law_r16 ++ (wsL_law_r17 ++ (wsL_law_r18 ++ (wsL_law_r19 ++ (wsL_law_r20 ++ (wsL_law_r21 ++ (wsL_law_r22 ++ (wsL_law_r23 ++ (wsL_law_r24 ++ (wsL_law_r25 ++ (wsL_law_r26 ++ (wsL_law_r27 ++ (wsL_law_r28 ++ (wsL_law_r29 ++ wsL_law_r30))))))))))))))))))))))))))))), w ∈ wsL_law := fun _ h => List.mem_append_left _ (List.mem_append_left _ (List.mem_append_left _ (List.mem_append_left _ (List.mem_append_left _ (List.mem_append_left _ (List.mem_append_left _ (List.mem_append_left _ (List.mem_append_left _ (List.mem_append_left _ (h))))))))))
theorem wr_r1 : ∀ w ∈ wsL_law_r1, w ∈ wsL_law := fun w h => wr_in w (List.mem_append_left _ h)
theorem m_2 : Cond.initialized RX7 ∈ wsL_law := wr_r1 _ (List.mem_of_getElem? (i := 2) rfl)
theorem m_5 : Cond.initialized RX8 ∈ wsL_law := wr_r1 _ (List.mem_of_getElem? (i := 5) rfl)
theorem m_13 : Cond.methodLink RX7 1 objectInit ∈ wsL_law := wr_r1 _ (List.mem_of_getElem? (i := 13) rfl)
theorem m_14 : Cond.instanceMethod objectInit ∈ wsL_law := wr_r1 _ (List.mem_of_getElem? (i := 14) rfl)
theorem m_15 : Cond.code objectInit ⟨#[0xb1]⟩ 1 none ∈ wsL_law := wr_r1 _ (List.mem_of_getElem? (i := 15) rfl)
theorem m_16 : Cond.classLink RX7 9 RX1 ∈ wsL_law := wr_r1 _ (List.mem_of_getElem? (i := 16) rfl)
theorem m_17 : Cond.fieldLink RX7 11 "TankChain" "fields" "[LTankChain$Field;" ∈ wsL_law := wr_r1 _ (List.mem_of_getElem? (i := 17) rfl)
theorem m_18 : Cond.classLink RX7 15 RX6 ∈ wsL_law := wr_r1 _ (List.mem_of_getElem? (i := 18) rfl)
theorem m_19 : Cond.instantiable RX6 6 ∈ wsL_law := wr_r1 _ (List.mem_of_getElem? (i := 19) rfl)
theorem m_20 : Cond.initialized RX6 ∈ wsL_law := wr_r1 _ (List.mem_of_getElem? (i := 20) rfl)
theorem m_21 : Cond.fieldLink RX7 18 "TankChain" "tape" "LTankChain$Tape;" ∈ wsL_law := wr_r1 _ (List.mem_of_getElem? (i := 21) rfl)
theorem m_22 : Cond.classLink RX7 22 RX0 ∈ wsL_law := wr_r1 _ (List.mem_of_getElem? (i := 22) rfl)
theorem m_23 : Cond.instantiable RX0 6 ∈ wsL_law := wr_r1 _ (List.mem_of_getElem? (i := 23) rfl)
theorem wr_r2 : ∀ w ∈ wsL_law_r2, w ∈ wsL_law := fun w h => wr_in w (List.mem_append_right _ (List.mem_append_left _ h))
theorem m_24 : Cond.initialized RX0 ∈ wsL_law := wr_r2 _ (List.mem_of_getElem? (i := 0) rfl)
theorem m_25 : Cond.fieldLink RX7 25 "TankChain" "inForce" "LTankChain$Custom;" ∈ wsL_law := wr_r2 _ (List.mem_of_getElem? (i := 1) rfl)
theorem m_26 : Cond.fieldLink RX7 29 "TankChain" "draft" "LTankChain$Custom;" ∈ wsL_law := wr_r2 _ (List.mem_of_getElem? (i := 2) rfl)
theorem m_27 : Cond.classLink RX7 32 RX4 ∈ wsL_law := wr_r2 _ (List.mem_of_getElem? (i := 3) rfl)
theorem m_28 : Cond.instantiable RX4 4 ∈ wsL_law := wr_r2 _ (List.mem_of_getElem? (i := 4) rfl)
theorem m_29 : Cond.initialized RX4 ∈ wsL_law := wr_r2 _ (List.mem_of_getElem? (i := 5) rfl)
theorem m_30 : Cond.fieldLink RX7 35 "TankChain" "ever" "LTankChain$Sums;" ∈ wsL_law := wr_r2 _ (List.mem_of_getElem? (i := 6) rfl)
theorem m_31 : Cond.fieldLink RX7 39 "TankChain" "fieldsThere" "I" ∈ wsL_law := wr_r2 _ (List.mem_of_getElem? (i := 7) rfl)
theorem m_32 : Cond.fieldLink RX7 43 "TankChain" "daysGone" "I" ∈ wsL_law := wr_r2 _ (List.mem_of_getElem? (i := 8) rfl)
theorem m_33 : Cond.fieldLink RX7 46 "TankChain" "lastRain" "I" ∈ wsL_law := wr_r2 _ (List.mem_of_getElem? (i := 9) rfl)
theorem m_34 : Cond.fieldLink RX7 49 "TankChain" "waterTold" "I" ∈ wsL_law := wr_r2 _ (List.mem_of_getElem? (i := 10) rfl)
theorem m_35 : Cond.fieldLink RX7 52 "TankChain" "faultPlace" "I" ∈ wsL_law := wr_r2 _ (List.mem_of_getElem? (i := 11) rfl)
theorem m_36 : Cond.fieldLink RX7 55 "TankChain" "breachDay" "I" ∈ wsL_law := wr_r2 _ (List.mem_of_getElem? (i := 12) rfl)
theorem m_37 : Cond.fieldLink RX7 58 "TankChain" "breachFirst" "I" ∈ wsL_law := wr_r2 _ (List.mem_of_getElem? (i := 13) rfl)
theorem m_38 : Cond.fieldLink RX7 61 "TankChain" "breachTanks" "I" ∈ wsL_law := wr_r2 _ (List.mem_of_getElem? (i := 14) rfl)
theorem m_39 : Cond.methodLink RX7 64 Lib.Math.min.name ∈ wsL_law := wr_r2 _ (List.mem_of_getElem? (i := 15) rfl)
theorem m_40 : Cond.static Lib.Math.min.name ∈ wsL_law := wr_r2 _ (List.mem_of_getElem? (i := 16) rfl)
theorem m_41 : Cond.initialized "java/lang/Math" ∈ wsL_law := wr_r2 _ (List.mem_of_getElem? (i := 17) rfl)
theorem m_42 : Cond.code Lib.Math.min.name Lib.Math.min.code 2 (some .int) ∈ wsL_law := wr_r2 _ (List.mem_of_getElem? (i := 18) rfl)
theorem m_43 : Cond.methodLink RX7 70 Lib.Math.max.name ∈ wsL_law := wr_r2 _ (List.mem_of_getElem? (i := 19) rfl)
theorem m_44 : Cond.static Lib.Math.max.name ∈ wsL_law := wr_r2 _ (List.mem_of_getElem? (i := 20) rfl)
theorem m_45 : Cond.code Lib.Math.max.name Lib.Math.max.code 2 (some .int) ∈ wsL_law := wr_r2 _ (List.mem_of_getElem? (i := 21) rfl)
theorem m_46 : Cond.classLink RX7 73 RX5 ∈ wsL_law := wr_r2 _ (List.mem_of_getElem? (i := 22) rfl)
theorem m_47 : Cond.fieldLink RX7 75 "TankChain" "tanks" "[LTankChain$Tank;" ∈ wsL_law := wr_r2 _ (List.mem_of_getElem? (i := 23) rfl)
theorem wr_r3 : ∀ w ∈ wsL_law_r3, w ∈ wsL_law := fun w h => wr_in w (List.mem_append_right _ (List.mem_append_right _ (List.mem_append_left _ h)))
theorem m_48 : Cond.instantiable RX5 10 ∈ wsL_law := wr_r3 _ (List.mem_of_getElem? (i := 0) rfl)
theorem m_49 : Cond.initialized RX5 ∈ wsL_law := wr_r3 _ (List.mem_of_getElem? (i := 1) rfl)
theorem m_50 : Cond.classLink RX7 82 RX2 ∈ wsL_law := wr_r3 _ (List.mem_of_getElem? (i := 2) rfl)
theorem m_51 : Cond.instantiable RX2 4 ∈ wsL_law := wr_r3 _ (List.mem_of_getElem? (i := 3) rfl)
theorem m_52 : Cond.initialized RX2 ∈ wsL_law := wr_r3 _ (List.mem_of_getElem? (i := 4) rfl)
theorem m_53 : Cond.fieldLink RX7 87 "TankChain" "flow" "LTankChain$Flow;" ∈ wsL_law := wr_r3 _ (List.mem_of_getElem? (i := 5) rfl)
theorem m_54 : Cond.instanceMethod yX6_init ∈ wsL_law := wr_r3 _ (List.mem_of_getElem? (i := 6) rfl)
theorem m_55 : Cond.code yX6_init cX6_init 1 none ∈ wsL_law := wr_r3 _ (List.mem_of_getElem? (i := 7) rfl)
theorem m_56 : Cond.methodLink RX6 3 objectInit ∈ wsL_law := wr_r3 _ (List.mem_of_getElem? (i := 8) rfl)
theorem m_57 : Cond.arrayClass .byte ∈ wsL_law := wr_r3 _ (List.mem_of_getElem? (i := 9) rfl)
theorem m_58 : Cond.fieldLink RX6 9 "TankChain$Tape" "bytes" "[B" ∈ wsL_law := wr_r3 _ (List.mem_of_getElem? (i := 10) rfl)
theorem m_59 : Cond.fieldLink RX6 15 "TankChain$Tape" "held" "I" ∈ wsL_law := wr_r3 _ (List.mem_of_getElem? (i := 11) rfl)
theorem m_60 : Cond.fieldLink RX6 19 "TankChain$Tape" "length" "I" ∈ wsL_law := wr_r3 _ (List.mem_of_getElem? (i := 12) rfl)
theorem m_61 : Cond.fieldLink RX6 22 "TankChain$Tape" "kind" "I" ∈ wsL_law := wr_r3 _ (List.mem_of_getElem? (i := 13) rfl)
theorem m_62 : Cond.fieldLink RX6 25 "TankChain$Tape" "begin" "I" ∈ wsL_law := wr_r3 _ (List.mem_of_getElem? (i := 14) rfl)
theorem m_63 : Cond.fieldLink RX6 28 "TankChain$Tape" "end" "I" ∈ wsL_law := wr_r3 _ (List.mem_of_getElem? (i := 15) rfl)
theorem m_64 : Cond.instanceMethod yX0_init ∈ wsL_law := wr_r3 _ (List.mem_of_getElem? (i := 16) rfl)
theorem m_65 : Cond.code yX0_init cX0_init 1 none ∈ wsL_law := wr_r3 _ (List.mem_of_getElem? (i := 17) rfl)
theorem m_66 : Cond.methodLink RX0 3 objectInit ∈ wsL_law := wr_r3 _ (List.mem_of_getElem? (i := 18) rfl)
theorem m_67 : Cond.arrayClass .int ∈ wsL_law := wr_r3 _ (List.mem_of_getElem? (i := 19) rfl)
theorem m_68 : Cond.fieldLink RX0 9 "TankChain$Custom" "firsts" "[I" ∈ wsL_law := wr_r3 _ (List.mem_of_getElem? (i := 20) rfl)
theorem m_69 : Cond.fieldLink RX0 15 "TankChain$Custom" "firstsThere" "I" ∈ wsL_law := wr_r3 _ (List.mem_of_getElem? (i := 21) rfl)
theorem m_70 : Cond.fieldLink RX0 19 "TankChain$Custom" "near" "I" ∈ wsL_law := wr_r3 _ (List.mem_of_getElem? (i := 22) rfl)
theorem m_71 : Cond.fieldLink RX0 22 "TankChain$Custom" "hold" "I" ∈ wsL_law := wr_r3 _ (List.mem_of_getElem? (i := 23) rfl)
theorem wr_r4 : ∀ w ∈ wsL_law_r4, w ∈ wsL_law := fun w h => wr_in w (List.mem_append_right _ (List.mem_append_right _ (List.mem_append_right _ (List.mem_append_left _ h))))
theorem m_72 : Cond.fieldLink RX0 25 "TankChain$Custom" "fair" "Z" ∈ wsL_law := wr_r4 _ (List.mem_of_getElem? (i := 0) rfl)
theorem m_73 : Cond.fieldLink RX0 29 "TankChain$Custom" "statements" "I" ∈ wsL_law := wr_r4 _ (List.mem_of_getElem? (i := 1) rfl)
theorem m_74 : Cond.instanceMethod yX4_init ∈ wsL_law := wr_r4 _ (List.mem_of_getElem? (i := 2) rfl)
theorem m_75 : Cond.code yX4_init cX4_init 1 none ∈ wsL_law := wr_r4 _ (List.mem_of_getElem? (i := 3) rfl)
theorem m_76 : Cond.methodLink RX4 1 objectInit ∈ wsL_law := wr_r4 _ (List.mem_of_getElem? (i := 4) rfl)
theorem m_77 : Cond.fieldLink RX4 7 "TankChain$Sums" "rained" "I" ∈ wsL_law := wr_r4 _ (List.mem_of_getElem? (i := 5) rfl)
theorem m_78 : Cond.fieldLink RX4 13 "TankChain$Sums" "seeped" "I" ∈ wsL_law := wr_r4 _ (List.mem_of_getElem? (i := 6) rfl)
theorem m_79 : Cond.fieldLink RX4 16 "TankChain$Sums" "kept" "I" ∈ wsL_law := wr_r4 _ (List.mem_of_getElem? (i := 7) rfl)
theorem m_80 : Cond.fieldLink RX4 19 "TankChain$Sums" "out" "I" ∈ wsL_law := wr_r4 _ (List.mem_of_getElem? (i := 8) rfl)
theorem m_81 : Cond.methodLink RX7 79 yX5_init ∈ wsL_law := wr_r4 _ (List.mem_of_getElem? (i := 9) rfl)
theorem m_82 : Cond.instanceMethod yX5_init ∈ wsL_law := wr_r4 _ (List.mem_of_getElem? (i := 10) rfl)
theorem m_83 : Cond.code yX5_init cX5_init 3 none ∈ wsL_law := wr_r4 _ (List.mem_of_getElem? (i := 11) rfl)
theorem m_84 : Cond.methodLink RX5 3 objectInit ∈ wsL_law := wr_r4 _ (List.mem_of_getElem? (i := 12) rfl)
theorem m_85 : Cond.classLink RX5 9 RX3 ∈ wsL_law := wr_r4 _ (List.mem_of_getElem? (i := 13) rfl)
theorem m_86 : Cond.instantiable RX3 5 ∈ wsL_law := wr_r4 _ (List.mem_of_getElem? (i := 14) rfl)
theorem m_87 : Cond.initialized RX3 ∈ wsL_law := wr_r4 _ (List.mem_of_getElem? (i := 15) rfl)
theorem m_88 : Cond.fieldLink RX5 12 "TankChain$Tank" "now" "LTankChain$Pool;" ∈ wsL_law := wr_r4 _ (List.mem_of_getElem? (i := 16) rfl)
theorem m_89 : Cond.fieldLink RX5 18 "TankChain$Tank" "after" "LTankChain$Pool;" ∈ wsL_law := wr_r4 _ (List.mem_of_getElem? (i := 17) rfl)
theorem m_90 : Cond.fieldLink RX5 21 "TankChain$Tank" "catches" "I" ∈ wsL_law := wr_r4 _ (List.mem_of_getElem? (i := 18) rfl)
theorem m_91 : Cond.fieldLink RX5 25 "TankChain$Tank" "size" "I" ∈ wsL_law := wr_r4 _ (List.mem_of_getElem? (i := 19) rfl)
theorem m_92 : Cond.fieldLink RX5 28 "TankChain$Tank" "bank" "I" ∈ wsL_law := wr_r4 _ (List.mem_of_getElem? (i := 20) rfl)
theorem m_93 : Cond.fieldLink RX5 31 "TankChain$Tank" "silt" "I" ∈ wsL_law := wr_r4 _ (List.mem_of_getElem? (i := 21) rfl)
theorem m_94 : Cond.fieldLink RX5 34 "TankChain$Tank" "breachedOn" "I" ∈ wsL_law := wr_r4 _ (List.mem_of_getElem? (i := 22) rfl)
theorem m_95 : Cond.fieldLink RX5 37 "TankChain$Tank" "firstField" "LTankChain$Field;" ∈ wsL_law := wr_r4 _ (List.mem_of_getElem? (i := 23) rfl)
theorem wr_r5 : ∀ w ∈ wsL_law_r5, w ∈ wsL_law := fun w h => wr_in w (List.mem_append_right _ (List.mem_append_right _ (List.mem_append_right _ (List.mem_append_right _ (List.mem_append_left _ h)))))
theorem m_96 : Cond.fieldLink RX5 41 "TankChain$Tank" "number" "I" ∈ wsL_law := wr_r5 _ (List.mem_of_getElem? (i := 0) rfl)
theorem m_97 : Cond.fieldLink RX5 44 "TankChain$Tank" "below" "LTankChain$Tank;" ∈ wsL_law := wr_r5 _ (List.mem_of_getElem? (i := 1) rfl)
theorem m_98 : Cond.instanceMethod yX3_init ∈ wsL_law := wr_r5 _ (List.mem_of_getElem? (i := 2) rfl)
theorem m_99 : Cond.code yX3_init cX3_init 1 none ∈ wsL_law := wr_r5 _ (List.mem_of_getElem? (i := 3) rfl)
theorem m_100 : Cond.methodLink RX3 1 objectInit ∈ wsL_law := wr_r5 _ (List.mem_of_getElem? (i := 4) rfl)
theorem m_101 : Cond.fieldLink RX3 7 "TankChain$Pool" "water" "I" ∈ wsL_law := wr_r5 _ (List.mem_of_getElem? (i := 5) rfl)
theorem m_102 : Cond.fieldLink RX3 13 "TankChain$Pool" "opening" "I" ∈ wsL_law := wr_r5 _ (List.mem_of_getElem? (i := 6) rfl)
theorem m_103 : Cond.fieldLink RX3 16 "TankChain$Pool" "breached" "Z" ∈ wsL_law := wr_r5 _ (List.mem_of_getElem? (i := 7) rfl)
theorem m_104 : Cond.fieldLink RX3 20 "TankChain$Pool" "taken" "I" ∈ wsL_law := wr_r5 _ (List.mem_of_getElem? (i := 8) rfl)
theorem m_105 : Cond.fieldLink RX3 23 "TankChain$Pool" "spilt" "I" ∈ wsL_law := wr_r5 _ (List.mem_of_getElem? (i := 9) rfl)
theorem m_106 : Cond.methodLink RX7 84 yX2_init ∈ wsL_law := wr_r5 _ (List.mem_of_getElem? (i := 10) rfl)
theorem m_107 : Cond.instanceMethod yX2_init ∈ wsL_law := wr_r5 _ (List.mem_of_getElem? (i := 11) rfl)
theorem m_108 : Cond.code yX2_init cX2_init 3 none ∈ wsL_law := wr_r5 _ (List.mem_of_getElem? (i := 12) rfl)
theorem m_109 : Cond.methodLink RX2 3 objectInit ∈ wsL_law := wr_r5 _ (List.mem_of_getElem? (i := 13) rfl)
theorem m_110 : Cond.classLink RX2 9 RX4 ∈ wsL_law := wr_r5 _ (List.mem_of_getElem? (i := 14) rfl)
theorem m_111 : Cond.fieldLink RX2 12 "TankChain$Flow" "sums" "LTankChain$Sums;" ∈ wsL_law := wr_r5 _ (List.mem_of_getElem? (i := 15) rfl)
theorem m_112 : Cond.fieldLink RX2 18 "TankChain$Flow" "areasFed" "I" ∈ wsL_law := wr_r5 _ (List.mem_of_getElem? (i := 16) rfl)
theorem m_113 : Cond.fieldLink RX2 22 "TankChain$Flow" "head" "LTankChain$Tank;" ∈ wsL_law := wr_r5 _ (List.mem_of_getElem? (i := 17) rfl)
theorem m_114 : Cond.fieldLink RX2 26 "TankChain$Flow" "custom" "LTankChain$Custom;" ∈ wsL_law := wr_r5 _ (List.mem_of_getElem? (i := 18) rfl)
theorem m_118 : Cond.methodLink RX8 1 objectInit ∈ wsL_law := wr_r5 _ (List.mem_of_getElem? (i := 22) rfl)
theorem m_119 : Cond.fieldLink RX8 7 "TankChainModel" "catches" "[I" ∈ wsL_law := wr_r5 _ (List.mem_of_getElem? (i := 23) rfl)
theorem wr_r6 : ∀ w ∈ wsL_law_r6, w ∈ wsL_law := fun w h => wr_in w (List.mem_append_right _ (List.mem_append_right _ (List.mem_append_right _ (List.mem_append_right _ (List.mem_append_right _ (List.mem_append_left _ h))))))
theorem m_120 : Cond.fieldLink RX8 13 "TankChainModel" "size" "[I" ∈ wsL_law := wr_r6 _ (List.mem_of_getElem? (i := 0) rfl)
theorem m_121 : Cond.fieldLink RX8 16 "TankChainModel" "bank" "[I" ∈ wsL_law := wr_r6 _ (List.mem_of_getElem? (i := 1) rfl)
theorem m_122 : Cond.fieldLink RX8 19 "TankChainModel" "water" "[I" ∈ wsL_law := wr_r6 _ (List.mem_of_getElem? (i := 2) rfl)
theorem m_123 : Cond.fieldLink RX8 22 "TankChainModel" "opening" "[I" ∈ wsL_law := wr_r6 _ (List.mem_of_getElem? (i := 3) rfl)
theorem m_124 : Cond.fieldLink RX8 25 "TankChainModel" "silt" "[I" ∈ wsL_law := wr_r6 _ (List.mem_of_getElem? (i := 4) rfl)
theorem m_125 : Cond.fieldLink RX8 28 "TankChainModel" "taken" "[I" ∈ wsL_law := wr_r6 _ (List.mem_of_getElem? (i := 5) rfl)
theorem m_126 : Cond.fieldLink RX8 31 "TankChainModel" "spilt" "[I" ∈ wsL_law := wr_r6 _ (List.mem_of_getElem? (i := 6) rfl)
theorem m_127 : Cond.fieldLink RX8 34 "TankChainModel" "breachedOn" "[I" ∈ wsL_law := wr_r6 _ (List.mem_of_getElem? (i := 7) rfl)
theorem m_128 : Cond.arrayClass .boolean ∈ wsL_law := wr_r6 _ (List.mem_of_getElem? (i := 8) rfl)
theorem m_129 : Cond.fieldLink RX8 37 "TankChainModel" "isBreached" "[Z" ∈ wsL_law := wr_r6 _ (List.mem_of_getElem? (i := 9) rfl)
theorem m_130 : Cond.fieldLink RX8 41 "TankChainModel" "fieldTank" "[I" ∈ wsL_law := wr_r6 _ (List.mem_of_getElem? (i := 10) rfl)
theorem m_131 : Cond.fieldLink RX8 44 "TankChainModel" "far" "[I" ∈ wsL_law := wr_r6 _ (List.mem_of_getElem? (i := 11) rfl)
theorem m_132 : Cond.fieldLink RX8 47 "TankChainModel" "area" "[I" ∈ wsL_law := wr_r6 _ (List.mem_of_getElem? (i := 12) rfl)
theorem m_133 : Cond.fieldLink RX8 50 "TankChainModel" "owner" "[I" ∈ wsL_law := wr_r6 _ (List.mem_of_getElem? (i := 13) rfl)
theorem m_134 : Cond.fieldLink RX8 53 "TankChainModel" "daysFed" "[I" ∈ wsL_law := wr_r6 _ (List.mem_of_getElem? (i := 14) rfl)
theorem m_135 : Cond.fieldLink RX8 56 "TankChainModel" "allGot" "[I" ∈ wsL_law := wr_r6 _ (List.mem_of_getElem? (i := 15) rfl)
theorem m_136 : Cond.fieldLink RX8 59 "TankChainModel" "lastGot" "[I" ∈ wsL_law := wr_r6 _ (List.mem_of_getElem? (i := 16) rfl)
theorem m_137 : Cond.fieldLink RX8 62 "TankChainModel" "isTemple" "[Z" ∈ wsL_law := wr_r6 _ (List.mem_of_getElem? (i := 17) rfl)
theorem m_138 : Cond.fieldLink RX8 65 "TankChainModel" "owners" "[I" ∈ wsL_law := wr_r6 _ (List.mem_of_getElem? (i := 18) rfl)
theorem m_139 : Cond.fieldLink RX8 68 "TankChainModel" "firstBreach" "I" ∈ wsL_law := wr_r6 _ (List.mem_of_getElem? (i := 19) rfl)
theorem m_140 : Cond.fieldLink RX8 72 "TankChainModel" "breaches" "I" ∈ wsL_law := wr_r6 _ (List.mem_of_getElem? (i := 20) rfl)
theorem m_141 : Cond.fieldLink RX8 75 "TankChainModel" "breachDay" "I" ∈ wsL_law := wr_r6 _ (List.mem_of_getElem? (i := 21) rfl)
theorem m_142 : Cond.fieldLink RX8 78 "TankChainModel" "tape" "[B" ∈ wsL_law := wr_r6 _ (List.mem_of_getElem? (i := 22) rfl)
theorem m_143 : Cond.fieldLink RX8 82 "TankChainModel" "text" "[B" ∈ wsL_law := wr_r6 _ (List.mem_of_getElem? (i := 23) rfl)
theorem wr_r7 : ∀ w ∈ wsL_law_r7, w ∈ wsL_law := fun w h => wr_in w (List.mem_append_right _ (List.mem_append_right _ (List.mem_append_right _ (List.mem_append_right _ (List.mem_append_right _ (List.mem_append_right _ (List.mem_append_left _ h)))))))
theorem m_144 : Cond.fieldLink RX8 85 "TankChainModel" "fault" "I" ∈ wsL_law := wr_r7 _ (List.mem_of_getElem? (i := 0) rfl)
theorem m_145 : Cond.fieldLink RX8 88 "TankChainModel" "told" "[I" ∈ wsL_law := wr_r7 _ (List.mem_of_getElem? (i := 1) rfl)
theorem m_146 : Cond.fieldLink RX8 91 "TankChainModel" "row" "[I" ∈ wsL_law := wr_r7 _ (List.mem_of_getElem? (i := 2) rfl)
theorem m_147 : Cond.fieldLink RX8 94 "TankChainModel" "got" "[I" ∈ wsL_law := wr_r7 _ (List.mem_of_getElem? (i := 3) rfl)
theorem m_148 : Cond.fieldLink RX8 97 "TankChainModel" "hasMore" "[Z" ∈ wsL_law := wr_r7 _ (List.mem_of_getElem? (i := 4) rfl)
theorem m_149 : Cond.fieldLink RX8 100 "TankChainModel" "triedWater" "[I" ∈ wsL_law := wr_r7 _ (List.mem_of_getElem? (i := 5) rfl)
theorem m_150 : Cond.fieldLink RX8 103 "TankChainModel" "triedOpening" "[I" ∈ wsL_law := wr_r7 _ (List.mem_of_getElem? (i := 6) rfl)
theorem m_151 : Cond.fieldLink RX8 106 "TankChainModel" "triedBreach" "[Z" ∈ wsL_law := wr_r7 _ (List.mem_of_getElem? (i := 7) rfl)
theorem m_152 : Cond.methodLink RX8 109 Lib.Math.min.name ∈ wsL_law := wr_r7 _ (List.mem_of_getElem? (i := 8) rfl)
theorem m_153 : Cond.methodLink RX8 115 Lib.Math.max.name ∈ wsL_law := wr_r7 _ (List.mem_of_getElem? (i := 9) rfl)
theorem m_154 : Cond.fieldLink RX8 118 "TankChainModel" "tanks" "I" ∈ wsL_law := wr_r7 _ (List.mem_of_getElem? (i := 10) rfl)
theorem m_159 : Cond.fieldLink RX7 99 "TankChain$Tank" "catches" "I" ∈ wsL_law := wr_r7 _ (List.mem_of_getElem? (i := 15) rfl)
theorem m_160 : Cond.fieldLink RX7 102 "TankChain$Tank" "size" "I" ∈ wsL_law := wr_r7 _ (List.mem_of_getElem? (i := 16) rfl)
theorem m_161 : Cond.fieldLink RX7 105 "TankChain$Tank" "bank" "I" ∈ wsL_law := wr_r7 _ (List.mem_of_getElem? (i := 17) rfl)
theorem m_162 : Cond.methodLink RX7 91 yX7_tankAt ∈ wsL_law := wr_r7 _ (List.mem_of_getElem? (i := 18) rfl)
theorem m_163 : Cond.instanceMethod yX7_tankAt ∈ wsL_law := wr_r7 _ (List.mem_of_getElem? (i := 19) rfl)
theorem m_164 : Cond.selects RX7 yX7_tankAt yX7_tankAt ∈ wsL_law := wr_r7 _ (List.mem_of_getElem? (i := 20) rfl)
theorem m_165 : Cond.code yX7_tankAt cX7_tankAt 2 (some (.object "TankChain$Tank")) ∈ wsL_law := wr_r7 _ (List.mem_of_getElem? (i := 21) rfl)
theorem m_166 : Cond.methodLink RX7 95 yX7_isWithin ∈ wsL_law := wr_r7 _ (List.mem_of_getElem? (i := 22) rfl)
theorem m_167 : Cond.static yX7_isWithin ∈ wsL_law := wr_r7 _ (List.mem_of_getElem? (i := 23) rfl)
theorem wr_r8 : ∀ w ∈ wsL_law_r8, w ∈ wsL_law := fun w h => wr_in w (List.mem_append_right _ (List.mem_append_right _ (List.mem_append_right _ (List.mem_append_right _ (List.mem_append_right _ (List.mem_append_right _ (List.mem_append_right _ (List.mem_append_left _ h))))))))
theorem m_168 : Cond.code yX7_isWithin cX7_isWithin 3 (some .boolean) ∈ wsL_law := wr_r8 _ (List.mem_of_getElem? (i := 0) rfl)
theorem m_173 : Cond.fieldLink RX8 129 "TankChainModel" "day" "I" ∈ wsL_law := wr_r8 _ (List.mem_of_getElem? (i := 5) rfl)
theorem m_174 : Cond.methodLink RX8 125 yX8_isTank ∈ wsL_law := wr_r8 _ (List.mem_of_getElem? (i := 6) rfl)
theorem m_175 : Cond.instanceMethod yX8_isTank ∈ wsL_law := wr_r8 _ (List.mem_of_getElem? (i := 7) rfl)
theorem m_176 : Cond.selects RX8 yX8_isTank yX8_isTank ∈ wsL_law := wr_r8 _ (List.mem_of_getElem? (i := 8) rfl)
theorem m_177 : Cond.code yX8_isTank cX8_isTank 2 (some .boolean) ∈ wsL_law := wr_r8 _ (List.mem_of_getElem? (i := 9) rfl)
theorem m_178 : Cond.methodLink RX8 121 yX8_isIn ∈ wsL_law := wr_r8 _ (List.mem_of_getElem? (i := 10) rfl)
theorem m_179 : Cond.static yX8_isIn ∈ wsL_law := wr_r8 _ (List.mem_of_getElem? (i := 11) rfl)
theorem m_180 : Cond.code yX8_isIn cX8_isIn 3 (some .boolean) ∈ wsL_law := wr_r8 _ (List.mem_of_getElem? (i := 12) rfl)
theorem m_185 : Cond.fieldLink RX7 108 "TankChain$Tank" "now" "LTankChain$Pool;" ∈ wsL_law := wr_r8 _ (List.mem_of_getElem? (i := 17) rfl)
theorem m_186 : Cond.fieldLink RX7 112 "TankChain$Pool" "breached" "Z" ∈ wsL_law := wr_r8 _ (List.mem_of_getElem? (i := 18) rfl)
theorem m_187 : Cond.fieldLink RX7 122 "TankChain$Pool" "water" "I" ∈ wsL_law := wr_r8 _ (List.mem_of_getElem? (i := 19) rfl)
theorem m_188 : Cond.methodLink RX7 118 yX5_roomIf ∈ wsL_law := wr_r8 _ (List.mem_of_getElem? (i := 20) rfl)
theorem m_189 : Cond.instanceMethod yX5_roomIf ∈ wsL_law := wr_r8 _ (List.mem_of_getElem? (i := 21) rfl)
theorem m_190 : Cond.selects RX5 yX5_roomIf yX5_roomIf ∈ wsL_law := wr_r8 _ (List.mem_of_getElem? (i := 22) rfl)
theorem m_191 : Cond.code yX5_roomIf cX5_roomIf 2 (some .int) ∈ wsL_law := wr_r8 _ (List.mem_of_getElem? (i := 23) rfl)
theorem wr_r9 : ∀ w ∈ wsL_law_r9, w ∈ wsL_law := fun w h => wr_in w (List.mem_append_right _ (List.mem_append_right _ (List.mem_append_right _ (List.mem_append_right _ (List.mem_append_right _ (List.mem_append_right _ (List.mem_append_right _ (List.mem_append_right _ (List.mem_append_left _ h)))))))))
theorem m_196 : Cond.fieldLink RX8 136 "TankChainModel" "toldMore" "I" ∈ wsL_law := wr_r9 _ (List.mem_of_getElem? (i := 4) rfl)
theorem m_197 : Cond.methodLink RX8 132 yX8_room ∈ wsL_law := wr_r9 _ (List.mem_of_getElem? (i := 5) rfl)
theorem m_198 : Cond.instanceMethod yX8_room ∈ wsL_law := wr_r9 _ (List.mem_of_getElem? (i := 6) rfl)
theorem m_199 : Cond.selects RX8 yX8_room yX8_room ∈ wsL_law := wr_r9 _ (List.mem_of_getElem? (i := 7) rfl)
theorem m_200 : Cond.code yX8_room cX8_room 3 (some .int) ∈ wsL_law := wr_r9 _ (List.mem_of_getElem? (i := 8) rfl)
theorem m_205 : Cond.instantiable RX1 12 ∈ wsL_law := wr_r9 _ (List.mem_of_getElem? (i := 13) rfl)
theorem m_206 : Cond.initialized RX1 ∈ wsL_law := wr_r9 _ (List.mem_of_getElem? (i := 14) rfl)
theorem m_207 : Cond.methodLink RX7 125 yX1_init ∈ wsL_law := wr_r9 _ (List.mem_of_getElem? (i := 15) rfl)
theorem m_208 : Cond.instanceMethod yX1_init ∈ wsL_law := wr_r9 _ (List.mem_of_getElem? (i := 16) rfl)
theorem m_209 : Cond.code yX1_init cX1_init 7 none ∈ wsL_law := wr_r9 _ (List.mem_of_getElem? (i := 17) rfl)
theorem m_210 : Cond.methodLink RX1 1 objectInit ∈ wsL_law := wr_r9 _ (List.mem_of_getElem? (i := 18) rfl)
theorem m_211 : Cond.fieldLink RX1 7 "TankChain$Field" "next" "LTankChain$Field;" ∈ wsL_law := wr_r9 _ (List.mem_of_getElem? (i := 19) rfl)
theorem m_212 : Cond.fieldLink RX1 13 "TankChain$Field" "share" "I" ∈ wsL_law := wr_r9 _ (List.mem_of_getElem? (i := 20) rfl)
theorem m_213 : Cond.fieldLink RX1 17 "TankChain$Field" "remainder" "I" ∈ wsL_law := wr_r9 _ (List.mem_of_getElem? (i := 21) rfl)
theorem m_214 : Cond.fieldLink RX1 20 "TankChain$Field" "daysFed" "I" ∈ wsL_law := wr_r9 _ (List.mem_of_getElem? (i := 22) rfl)
theorem m_215 : Cond.fieldLink RX1 23 "TankChain$Field" "gotEver" "I" ∈ wsL_law := wr_r9 _ (List.mem_of_getElem? (i := 23) rfl)
theorem wr_r10 : ∀ w ∈ wsL_law_r10, w ∈ wsL_law := fun w h => wr_in w (List.mem_append_right _ (List.mem_append_right _ (List.mem_append_right _ (List.mem_append_right _ (List.mem_append_right _ (List.mem_append_right _ (List.mem_append_right _ (List.mem_append_right _ (List.mem_append_right _ (List.mem_append_left _ h))))))))))
theorem m_216 : Cond.fieldLink RX1 26 "TankChain$Field" "gotLately" "I" ∈ wsL_law := wr_r10 _ (List.mem_of_getElem? (i := 0) rfl)
theorem m_217 : Cond.fieldLink RX1 29 "TankChain$Field" "number" "I" ∈ wsL_law := wr_r10 _ (List.mem_of_getElem? (i := 1) rfl)
theorem m_218 : Cond.fieldLink RX1 32 "TankChain$Field" "tank" "I" ∈ wsL_law := wr_r10 _ (List.mem_of_getElem? (i := 2) rfl)
theorem m_219 : Cond.fieldLink RX1 35 "TankChain$Field" "far" "I" ∈ wsL_law := wr_r10 _ (List.mem_of_getElem? (i := 3) rfl)
theorem m_220 : Cond.fieldLink RX1 38 "TankChain$Field" "area" "I" ∈ wsL_law := wr_r10 _ (List.mem_of_getElem? (i := 4) rfl)
theorem m_221 : Cond.fieldLink RX1 41 "TankChain$Field" "owner" "I" ∈ wsL_law := wr_r10 _ (List.mem_of_getElem? (i := 5) rfl)
theorem m_222 : Cond.fieldLink RX1 44 "TankChain$Field" "temple" "Z" ∈ wsL_law := wr_r10 _ (List.mem_of_getElem? (i := 6) rfl)
theorem m_223 : Cond.methodLink RX7 128 yX5_putInOrder ∈ wsL_law := wr_r10 _ (List.mem_of_getElem? (i := 7) rfl)
theorem m_224 : Cond.instanceMethod yX5_putInOrder ∈ wsL_law := wr_r10 _ (List.mem_of_getElem? (i := 8) rfl)
theorem m_225 : Cond.selects RX5 yX5_putInOrder yX5_putInOrder ∈ wsL_law := wr_r10 _ (List.mem_of_getElem? (i := 9) rfl)
theorem m_226 : Cond.code yX5_putInOrder cX5_putInOrder 5 none ∈ wsL_law := wr_r10 _ (List.mem_of_getElem? (i := 10) rfl)
theorem m_227 : Cond.fieldLink RX5 54 "TankChain$Field" "next" "LTankChain$Field;" ∈ wsL_law := wr_r10 _ (List.mem_of_getElem? (i := 11) rfl)
theorem m_228 : Cond.methodLink RX5 48 yX0_isAhead ∈ wsL_law := wr_r10 _ (List.mem_of_getElem? (i := 12) rfl)
theorem m_229 : Cond.instanceMethod yX0_isAhead ∈ wsL_law := wr_r10 _ (List.mem_of_getElem? (i := 13) rfl)
theorem m_230 : Cond.selects RX0 yX0_isAhead yX0_isAhead ∈ wsL_law := wr_r10 _ (List.mem_of_getElem? (i := 14) rfl)
theorem m_231 : Cond.code yX0_isAhead cX0_isAhead 5 (some .boolean) ∈ wsL_law := wr_r10 _ (List.mem_of_getElem? (i := 15) rfl)
theorem m_232 : Cond.fieldLink RX0 43 "TankChain$Field" "number" "I" ∈ wsL_law := wr_r10 _ (List.mem_of_getElem? (i := 16) rfl)
theorem m_233 : Cond.methodLink RX0 39 yX0_rank ∈ wsL_law := wr_r10 _ (List.mem_of_getElem? (i := 17) rfl)
theorem m_234 : Cond.static yX0_rank ∈ wsL_law := wr_r10 _ (List.mem_of_getElem? (i := 18) rfl)
theorem m_235 : Cond.code yX0_rank cX0_rank 2 (some .int) ∈ wsL_law := wr_r10 _ (List.mem_of_getElem? (i := 19) rfl)
theorem m_236 : Cond.fieldLink RX0 48 "TankChain$Field" "temple" "Z" ∈ wsL_law := wr_r10 _ (List.mem_of_getElem? (i := 20) rfl)
theorem m_237 : Cond.fieldLink RX0 51 "TankChain$Field" "area" "I" ∈ wsL_law := wr_r10 _ (List.mem_of_getElem? (i := 21) rfl)
theorem m_238 : Cond.fieldLink RX0 54 "TankChain$Field" "far" "I" ∈ wsL_law := wr_r10 _ (List.mem_of_getElem? (i := 22) rfl)
theorem wr_r11 : ∀ w ∈ wsL_law_r11, w ∈ wsL_law := fun w h => wr_in w (List.mem_append_right _ (List.mem_append_right _ (List.mem_append_right _ (List.mem_append_right _ (List.mem_append_right _ (List.mem_append_right _ (List.mem_append_right _ (List.mem_append_right _ (List.mem_append_right _ (List.mem_append_right _ (List.mem_append_left _ h)))))))))))
theorem m_243 : Cond.fieldLink RX8 139 "TankChainModel" "fields" "I" ∈ wsL_law := wr_r11 _ (List.mem_of_getElem? (i := 3) rfl)
theorem m_248 : Cond.fieldLink RX7 132 "TankChain$Pool" "opening" "I" ∈ wsL_law := wr_r11 _ (List.mem_of_getElem? (i := 8) rfl)
theorem wr_r12 : ∀ w ∈ wsL_law_r12, w ∈ wsL_law := fun w h => wr_in w (List.mem_append_right _ (List.mem_append_right _ (List.mem_append_right _ (List.mem_append_right _ (List.mem_append_right _ (List.mem_append_right _ (List.mem_append_right _ (List.mem_append_right _ (List.mem_append_right _ (List.mem_append_right _ (List.mem_append_right _ (List.mem_append_left _ h))))))))))))
theorem m_265 : Cond.fieldLink RX7 135 "TankChain$Tank" "silt" "I" ∈ wsL_law := wr_r12 _ (List.mem_of_getElem? (i := 1) rfl)
theorem m_274 : Cond.fieldLink RX7 138 "TankChain$Tape" "held" "I" ∈ wsL_law := wr_r12 _ (List.mem_of_getElem? (i := 10) rfl)
theorem m_275 : Cond.methodLink RX7 141 yX6_putFour ∈ wsL_law := wr_r12 _ (List.mem_of_getElem? (i := 11) rfl)
theorem m_276 : Cond.instanceMethod yX6_putFour ∈ wsL_law := wr_r12 _ (List.mem_of_getElem? (i := 12) rfl)
theorem m_277 : Cond.selects RX6 yX6_putFour yX6_putFour ∈ wsL_law := wr_r12 _ (List.mem_of_getElem? (i := 13) rfl)
theorem m_278 : Cond.code yX6_putFour cX6_putFour 2 none ∈ wsL_law := wr_r12 _ (List.mem_of_getElem? (i := 14) rfl)
theorem m_279 : Cond.methodLink RX6 31 yX6_putByte ∈ wsL_law := wr_r12 _ (List.mem_of_getElem? (i := 15) rfl)
theorem m_280 : Cond.instanceMethod yX6_putByte ∈ wsL_law := wr_r12 _ (List.mem_of_getElem? (i := 16) rfl)
theorem m_281 : Cond.selects RX6 yX6_putByte yX6_putByte ∈ wsL_law := wr_r12 _ (List.mem_of_getElem? (i := 17) rfl)
theorem m_282 : Cond.code yX6_putByte cX6_putByte 2 none ∈ wsL_law := wr_r12 _ (List.mem_of_getElem? (i := 18) rfl)
theorem m_287 : Cond.fieldLink RX8 146 "TankChainModel" "taped" "I" ∈ wsL_law := wr_r12 _ (List.mem_of_getElem? (i := 23) rfl)
theorem wr_r13 : ∀ w ∈ wsL_law_r13, w ∈ wsL_law := fun w h => wr_in w (List.mem_append_right _ (List.mem_append_right _ (List.mem_append_right _ (List.mem_append_right _ (List.mem_append_right _ (List.mem_append_right _ (List.mem_append_right _ (List.mem_append_right _ (List.mem_append_right _ (List.mem_append_right _ (List.mem_append_right _ (List.mem_append_right _ (List.mem_append_left _ h)))))))))))))
theorem m_288 : Cond.methodLink RX8 149 yX8_four ∈ wsL_law := wr_r13 _ (List.mem_of_getElem? (i := 0) rfl)
theorem m_289 : Cond.instanceMethod yX8_four ∈ wsL_law := wr_r13 _ (List.mem_of_getElem? (i := 1) rfl)
theorem m_290 : Cond.selects RX8 yX8_four yX8_four ∈ wsL_law := wr_r13 _ (List.mem_of_getElem? (i := 2) rfl)
theorem m_291 : Cond.code yX8_four cX8_four 3 none ∈ wsL_law := wr_r13 _ (List.mem_of_getElem? (i := 3) rfl)
theorem m_296 : Cond.fieldLink RX7 156 "TankChain$Custom" "statements" "I" ∈ wsL_law := wr_r13 _ (List.mem_of_getElem? (i := 8) rfl)
theorem m_297 : Cond.methodLink RX7 145 yX6_faultReading ∈ wsL_law := wr_r13 _ (List.mem_of_getElem? (i := 9) rfl)
theorem m_298 : Cond.instanceMethod yX6_faultReading ∈ wsL_law := wr_r13 _ (List.mem_of_getElem? (i := 10) rfl)
theorem m_299 : Cond.selects RX6 yX6_faultReading yX6_faultReading ∈ wsL_law := wr_r13 _ (List.mem_of_getElem? (i := 11) rfl)
theorem m_300 : Cond.code yX6_faultReading cX6_faultReading 3 (some .int) ∈ wsL_law := wr_r13 _ (List.mem_of_getElem? (i := 12) rfl)
theorem m_301 : Cond.fieldLink RX6 43 "TankChain$Custom" "statements" "I" ∈ wsL_law := wr_r13 _ (List.mem_of_getElem? (i := 13) rfl)
theorem m_302 : Cond.methodLink RX6 35 yX0_clear ∈ wsL_law := wr_r13 _ (List.mem_of_getElem? (i := 14) rfl)
theorem m_303 : Cond.instanceMethod yX0_clear ∈ wsL_law := wr_r13 _ (List.mem_of_getElem? (i := 15) rfl)
theorem m_304 : Cond.selects RX0 yX0_clear yX0_clear ∈ wsL_law := wr_r13 _ (List.mem_of_getElem? (i := 16) rfl)
theorem m_305 : Cond.code yX0_clear cX0_clear 1 none ∈ wsL_law := wr_r13 _ (List.mem_of_getElem? (i := 17) rfl)
theorem m_306 : Cond.methodLink RX6 40 yX6_nextToken ∈ wsL_law := wr_r13 _ (List.mem_of_getElem? (i := 18) rfl)
theorem m_307 : Cond.instanceMethod yX6_nextToken ∈ wsL_law := wr_r13 _ (List.mem_of_getElem? (i := 19) rfl)
theorem m_308 : Cond.selects RX6 yX6_nextToken yX6_nextToken ∈ wsL_law := wr_r13 _ (List.mem_of_getElem? (i := 20) rfl)
theorem m_309 : Cond.code yX6_nextToken cX6_nextToken 1 none ∈ wsL_law := wr_r13 _ (List.mem_of_getElem? (i := 21) rfl)
theorem m_310 : Cond.methodLink RX6 87 yX6_byteAt ∈ wsL_law := wr_r13 _ (List.mem_of_getElem? (i := 22) rfl)
theorem m_311 : Cond.instanceMethod yX6_byteAt ∈ wsL_law := wr_r13 _ (List.mem_of_getElem? (i := 23) rfl)
theorem wr_r14 : ∀ w ∈ wsL_law_r14, w ∈ wsL_law := fun w h => wr_in w (List.mem_append_right _ (List.mem_append_right _ (List.mem_append_right _ (List.mem_append_right _ (List.mem_append_right _ (List.mem_append_right _ (List.mem_append_right _ (List.mem_append_right _ (List.mem_append_right _ (List.mem_append_right _ (List.mem_append_right _ (List.mem_append_right _ (List.mem_append_right _ (List.mem_append_left _ h))))))))))))))
theorem m_312 : Cond.selects RX6 yX6_byteAt yX6_byteAt ∈ wsL_law := wr_r14 _ (List.mem_of_getElem? (i := 0) rfl)
theorem m_313 : Cond.code yX6_byteAt cX6_byteAt 2 (some .int) ∈ wsL_law := wr_r14 _ (List.mem_of_getElem? (i := 1) rfl)
theorem m_314 : Cond.methodLink RX6 95 yX6_isBlank ∈ wsL_law := wr_r14 _ (List.mem_of_getElem? (i := 2) rfl)
theorem m_315 : Cond.static yX6_isBlank ∈ wsL_law := wr_r14 _ (List.mem_of_getElem? (i := 3) rfl)
theorem m_316 : Cond.code yX6_isBlank cX6_isBlank 1 (some .boolean) ∈ wsL_law := wr_r14 _ (List.mem_of_getElem? (i := 4) rfl)
theorem m_317 : Cond.methodLink RX6 99 yX6_isLetter ∈ wsL_law := wr_r14 _ (List.mem_of_getElem? (i := 5) rfl)
theorem m_318 : Cond.static yX6_isLetter ∈ wsL_law := wr_r14 _ (List.mem_of_getElem? (i := 6) rfl)
theorem m_319 : Cond.code yX6_isLetter cX6_isLetter 1 (some .boolean) ∈ wsL_law := wr_r14 _ (List.mem_of_getElem? (i := 7) rfl)
theorem m_320 : Cond.methodLink RX6 102 yX6_isDigit ∈ wsL_law := wr_r14 _ (List.mem_of_getElem? (i := 8) rfl)
theorem m_321 : Cond.static yX6_isDigit ∈ wsL_law := wr_r14 _ (List.mem_of_getElem? (i := 9) rfl)
theorem m_322 : Cond.code yX6_isDigit cX6_isDigit 1 (some .boolean) ∈ wsL_law := wr_r14 _ (List.mem_of_getElem? (i := 10) rfl)
theorem m_323 : Cond.methodLink RX6 46 yX6_readStatement ∈ wsL_law := wr_r14 _ (List.mem_of_getElem? (i := 11) rfl)
theorem m_324 : Cond.instanceMethod yX6_readStatement ∈ wsL_law := wr_r14 _ (List.mem_of_getElem? (i := 12) rfl)
theorem m_325 : Cond.selects RX6 yX6_readStatement yX6_readStatement ∈ wsL_law := wr_r14 _ (List.mem_of_getElem? (i := 13) rfl)
theorem m_326 : Cond.code yX6_readStatement cX6_readStatement 3 (some .boolean) ∈ wsL_law := wr_r14 _ (List.mem_of_getElem? (i := 14) rfl)
theorem m_327 : Cond.fieldLink RX6 65 "TankChain$Custom" "near" "I" ∈ wsL_law := wr_r14 _ (List.mem_of_getElem? (i := 15) rfl)
theorem m_328 : Cond.fieldLink RX6 69 "TankChain$Custom" "hold" "I" ∈ wsL_law := wr_r14 _ (List.mem_of_getElem? (i := 16) rfl)
theorem m_329 : Cond.fieldLink RX6 73 "TankChain$Custom" "fair" "Z" ∈ wsL_law := wr_r14 _ (List.mem_of_getElem? (i := 17) rfl)
theorem m_330 : Cond.methodLink RX6 52 yX6_isWord ∈ wsL_law := wr_r14 _ (List.mem_of_getElem? (i := 18) rfl)
theorem m_331 : Cond.instanceMethod yX6_isWord ∈ wsL_law := wr_r14 _ (List.mem_of_getElem? (i := 19) rfl)
theorem m_332 : Cond.selects RX6 yX6_isWord yX6_isWord ∈ wsL_law := wr_r14 _ (List.mem_of_getElem? (i := 20) rfl)
theorem m_333 : Cond.code yX6_isWord cX6_isWord 3 (some .boolean) ∈ wsL_law := wr_r14 _ (List.mem_of_getElem? (i := 21) rfl)
theorem m_334 : Cond.methodLink RX6 83 yJ0_length_8abf5 ∈ wsL_law := wr_r14 _ (List.mem_of_getElem? (i := 22) rfl)
theorem m_335 : Cond.instanceMethod yJ0_length_8abf5 ∈ wsL_law := wr_r14 _ (List.mem_of_getElem? (i := 23) rfl)
theorem wr_r15 : ∀ w ∈ wsL_law_r15, w ∈ wsL_law := fun w h => wr_in w (List.mem_append_right _ (List.mem_append_right _ (List.mem_append_right _ (List.mem_append_right _ (List.mem_append_right _ (List.mem_append_right _ (List.mem_append_right _ (List.mem_append_right _ (List.mem_append_right _ (List.mem_append_right _ (List.mem_append_right _ (List.mem_append_right _ (List.mem_append_right _ (List.mem_append_right _ (List.mem_append_left _ h)))))))))))))))
theorem m_336 : Cond.selects RJ0 yJ0_length_8abf5 yJ0_length_8abf5 ∈ wsL_law := wr_r15 _ (List.mem_of_getElem? (i := 0) rfl)
theorem m_337 : Cond.initialized RJ0 ∈ wsL_law := wr_r15 _ (List.mem_of_getElem? (i := 1) rfl)
theorem m_338 : Cond.code yJ0_length_8abf5 cJ0_length_8abf5 1 (some .int) ∈ wsL_law := wr_r15 _ (List.mem_of_getElem? (i := 2) rfl)
theorem m_339 : Cond.fieldLink RJ0 9 "java/lang/String" "value" "[B" ∈ wsL_law := wr_r15 _ (List.mem_of_getElem? (i := 3) rfl)
theorem m_340 : Cond.methodLink RJ0 335 yJ0_coder_7d493 ∈ wsL_law := wr_r15 _ (List.mem_of_getElem? (i := 4) rfl)
theorem m_341 : Cond.instanceMethod yJ0_coder_7d493 ∈ wsL_law := wr_r15 _ (List.mem_of_getElem? (i := 5) rfl)
theorem m_342 : Cond.selects RJ0 yJ0_coder_7d493 yJ0_coder_7d493 ∈ wsL_law := wr_r15 _ (List.mem_of_getElem? (i := 6) rfl)
theorem m_343 : Cond.code yJ0_coder_7d493 cJ0_coder_7d493 1 (some .byte) ∈ wsL_law := wr_r15 _ (List.mem_of_getElem? (i := 7) rfl)
theorem m_344 : Cond.fieldLink RJ0 38 "java/lang/String" "COMPACT_STRINGS" "Z" ∈ wsL_law := wr_r15 _ (List.mem_of_getElem? (i := 8) rfl)
theorem m_345 : Cond.fieldLink RJ0 15 "java/lang/String" "coder" "B" ∈ wsL_law := wr_r15 _ (List.mem_of_getElem? (i := 9) rfl)
theorem m_346 : Cond.methodLink RX6 91 yJ0_charAt_5068e ∈ wsL_law := wr_r15 _ (List.mem_of_getElem? (i := 10) rfl)
theorem m_347 : Cond.instanceMethod yJ0_charAt_5068e ∈ wsL_law := wr_r15 _ (List.mem_of_getElem? (i := 11) rfl)
theorem m_348 : Cond.selects RJ0 yJ0_charAt_5068e yJ0_charAt_5068e ∈ wsL_law := wr_r15 _ (List.mem_of_getElem? (i := 12) rfl)
theorem m_349 : Cond.code yJ0_charAt_5068e cJ0_charAt_5068e 2 (some .char) ∈ wsL_law := wr_r15 _ (List.mem_of_getElem? (i := 13) rfl)
theorem m_350 : Cond.methodLink RJ0 492 yJ0_isLatin1_aae02 ∈ wsL_law := wr_r15 _ (List.mem_of_getElem? (i := 14) rfl)
theorem m_351 : Cond.instanceMethod yJ0_isLatin1_aae02 ∈ wsL_law := wr_r15 _ (List.mem_of_getElem? (i := 15) rfl)
theorem m_352 : Cond.selects RJ0 yJ0_isLatin1_aae02 yJ0_isLatin1_aae02 ∈ wsL_law := wr_r15 _ (List.mem_of_getElem? (i := 16) rfl)
theorem m_353 : Cond.code yJ0_isLatin1_aae02 cJ0_isLatin1_aae02 1 (some .boolean) ∈ wsL_law := wr_r15 _ (List.mem_of_getElem? (i := 17) rfl)
theorem m_354 : Cond.methodLink RJ0 495 yJ1_charAt_3b067 ∈ wsL_law := wr_r15 _ (List.mem_of_getElem? (i := 18) rfl)
theorem m_355 : Cond.static yJ1_charAt_3b067 ∈ wsL_law := wr_r15 _ (List.mem_of_getElem? (i := 19) rfl)
theorem m_356 : Cond.initialized RJ1 ∈ wsL_law := wr_r15 _ (List.mem_of_getElem? (i := 20) rfl)
theorem m_357 : Cond.code yJ1_charAt_3b067 cJ1_charAt_3b067 2 (some .char) ∈ wsL_law := wr_r15 _ (List.mem_of_getElem? (i := 21) rfl)
theorem m_358 : Cond.methodLink RJ1 9 yJ0_checkIndex_df160 ∈ wsL_law := wr_r15 _ (List.mem_of_getElem? (i := 22) rfl)
theorem m_359 : Cond.static yJ0_checkIndex_df160 ∈ wsL_law := wr_r15 _ (List.mem_of_getElem? (i := 23) rfl)
theorem wr_r16 : ∀ w ∈ wsL_law_r16, w ∈ wsL_law := fun w h => wr_in w (List.mem_append_right _ (List.mem_append_right _ (List.mem_append_right _ (List.mem_append_right _ (List.mem_append_right _ (List.mem_append_right _ (List.mem_append_right _ (List.mem_append_right _ (List.mem_append_right _ (List.mem_append_right _ (List.mem_append_right _ (List.mem_append_right _ (List.mem_append_right _ (List.mem_append_right _ (List.mem_append_right _ (List.mem_append_left _ h))))))))))))))))
theorem m_360 : Cond.code yJ0_checkIndex_df160 cJ0_checkIndex_df160 2 none ∈ wsL_law := wr_r16 _ (List.mem_of_getElem? (i := 0) rfl)
theorem m_361 : Cond.fieldLink RJ0 1053 "jdk/internal/util/Preconditions" "SIOOBE_FORMATTER" "Ljava/util/function/BiFunction;" ∈ wsL_law := wr_r16 _ (List.mem_of_getElem? (i := 1) rfl)
theorem m_362 : Cond.methodLink RJ0 1059 yJ3_checkIndex_8e157 ∈ wsL_law := wr_r16 _ (List.mem_of_getElem? (i := 2) rfl)
theorem m_363 : Cond.static yJ3_checkIndex_8e157 ∈ wsL_law := wr_r16 _ (List.mem_of_getElem? (i := 3) rfl)
theorem m_364 : Cond.initialized RJ3 ∈ wsL_law := wr_r16 _ (List.mem_of_getElem? (i := 4) rfl)
theorem m_365 : Cond.code yJ3_checkIndex_8e157 cJ3_checkIndex_8e157 3 (some .int) ∈ wsL_law := wr_r16 _ (List.mem_of_getElem? (i := 5) rfl)
theorem m_383 : Cond.methodLink RX6 56 yX6_readFirst ∈ wsL_law := wr_r16 _ (List.mem_of_getElem? (i := 23) rfl)
theorem wr_r17 : ∀ w ∈ wsL_law_r17, w ∈ wsL_law := fun w h => wr_in w (List.mem_append_right _ (List.mem_append_right _ (List.mem_append_right _ (List.mem_append_right _ (List.mem_append_right _ (List.mem_append_right _ (List.mem_append_right _ (List.mem_append_right _ (List.mem_append_right _ (List.mem_append_right _ (List.mem_append_right _ (List.mem_append_right _ (List.mem_append_right _ (List.mem_append_right _ (List.mem_append_right _ (List.mem_append_right _ (List.mem_append_left _ h)))))))))))))))))
theorem m_384 : Cond.instanceMethod yX6_readFirst ∈ wsL_law := wr_r17 _ (List.mem_of_getElem? (i := 0) rfl)
theorem m_385 : Cond.selects RX6 yX6_readFirst yX6_readFirst ∈ wsL_law := wr_r17 _ (List.mem_of_getElem? (i := 1) rfl)
theorem m_386 : Cond.code yX6_readFirst cX6_readFirst 2 (some .boolean) ∈ wsL_law := wr_r17 _ (List.mem_of_getElem? (i := 2) rfl)
theorem m_387 : Cond.methodLink RX6 78 yX0_addFirst ∈ wsL_law := wr_r17 _ (List.mem_of_getElem? (i := 3) rfl)
theorem m_388 : Cond.instanceMethod yX0_addFirst ∈ wsL_law := wr_r17 _ (List.mem_of_getElem? (i := 4) rfl)
theorem m_389 : Cond.selects RX0 yX0_addFirst yX0_addFirst ∈ wsL_law := wr_r17 _ (List.mem_of_getElem? (i := 5) rfl)
theorem m_390 : Cond.code yX0_addFirst cX0_addFirst 2 none ∈ wsL_law := wr_r17 _ (List.mem_of_getElem? (i := 6) rfl)
theorem m_391 : Cond.methodLink RX6 61 yX6_numberHere ∈ wsL_law := wr_r17 _ (List.mem_of_getElem? (i := 7) rfl)
theorem m_392 : Cond.instanceMethod yX6_numberHere ∈ wsL_law := wr_r17 _ (List.mem_of_getElem? (i := 8) rfl)
theorem m_393 : Cond.selects RX6 yX6_numberHere yX6_numberHere ∈ wsL_law := wr_r17 _ (List.mem_of_getElem? (i := 9) rfl)
theorem m_394 : Cond.code yX6_numberHere cX6_numberHere 3 (some .int) ∈ wsL_law := wr_r17 _ (List.mem_of_getElem? (i := 10) rfl)
theorem m_395 : Cond.methodLink RX7 149 yX0_becomeAs ∈ wsL_law := wr_r17 _ (List.mem_of_getElem? (i := 11) rfl)
theorem m_396 : Cond.instanceMethod yX0_becomeAs ∈ wsL_law := wr_r17 _ (List.mem_of_getElem? (i := 12) rfl)
theorem m_397 : Cond.selects RX0 yX0_becomeAs yX0_becomeAs ∈ wsL_law := wr_r17 _ (List.mem_of_getElem? (i := 13) rfl)
theorem m_398 : Cond.code yX0_becomeAs cX0_becomeAs 3 none ∈ wsL_law := wr_r17 _ (List.mem_of_getElem? (i := 14) rfl)
theorem m_399 : Cond.methodLink RX0 32 yX0_clear ∈ wsL_law := wr_r17 _ (List.mem_of_getElem? (i := 15) rfl)
theorem m_400 : Cond.methodLink RX0 35 yX0_addFirst ∈ wsL_law := wr_r17 _ (List.mem_of_getElem? (i := 16) rfl)
theorem m_401 : Cond.methodLink RX7 153 yX7_orderAnew ∈ wsL_law := wr_r17 _ (List.mem_of_getElem? (i := 17) rfl)
theorem m_402 : Cond.instanceMethod yX7_orderAnew ∈ wsL_law := wr_r17 _ (List.mem_of_getElem? (i := 18) rfl)
theorem m_403 : Cond.selects RX7 yX7_orderAnew yX7_orderAnew ∈ wsL_law := wr_r17 _ (List.mem_of_getElem? (i := 19) rfl)
theorem m_404 : Cond.code yX7_orderAnew cX7_orderAnew 4 none ∈ wsL_law := wr_r17 _ (List.mem_of_getElem? (i := 20) rfl)
theorem m_405 : Cond.fieldLink RX7 267 "TankChain$Flow" "head" "LTankChain$Tank;" ∈ wsL_law := wr_r17 _ (List.mem_of_getElem? (i := 21) rfl)
theorem m_406 : Cond.fieldLink RX7 225 "TankChain$Tank" "firstField" "LTankChain$Field;" ∈ wsL_law := wr_r17 _ (List.mem_of_getElem? (i := 22) rfl)
theorem m_407 : Cond.fieldLink RX7 271 "TankChain$Tank" "below" "LTankChain$Tank;" ∈ wsL_law := wr_r17 _ (List.mem_of_getElem? (i := 23) rfl)
theorem wr_r18 : ∀ w ∈ wsL_law_r18, w ∈ wsL_law := fun w h => wr_in w (List.mem_append_right _ (List.mem_append_right _ (List.mem_append_right _ (List.mem_append_right _ (List.mem_append_right _ (List.mem_append_right _ (List.mem_append_right _ (List.mem_append_right _ (List.mem_append_right _ (List.mem_append_right _ (List.mem_append_right _ (List.mem_append_right _ (List.mem_append_right _ (List.mem_append_right _ (List.mem_append_right _ (List.mem_append_right _ (List.mem_append_right _ (List.mem_append_left _ h))))))))))))))))))
theorem m_408 : Cond.fieldLink RX7 201 "TankChain$Field" "tank" "I" ∈ wsL_law := wr_r18 _ (List.mem_of_getElem? (i := 0) rfl)
theorem m_409 : Cond.methodLink RX7 197 yX7_fieldAt ∈ wsL_law := wr_r18 _ (List.mem_of_getElem? (i := 1) rfl)
theorem m_410 : Cond.instanceMethod yX7_fieldAt ∈ wsL_law := wr_r18 _ (List.mem_of_getElem? (i := 2) rfl)
theorem m_411 : Cond.selects RX7 yX7_fieldAt yX7_fieldAt ∈ wsL_law := wr_r18 _ (List.mem_of_getElem? (i := 3) rfl)
theorem m_412 : Cond.code yX7_fieldAt cX7_fieldAt 2 (some (.object "TankChain$Field")) ∈ wsL_law := wr_r18 _ (List.mem_of_getElem? (i := 4) rfl)
theorem m_417 : Cond.fieldLink RX8 156 "TankChainModel" "end" "I" ∈ wsL_law := wr_r18 _ (List.mem_of_getElem? (i := 9) rfl)
theorem m_418 : Cond.fieldLink RX8 153 "TankChainModel" "place" "I" ∈ wsL_law := wr_r18 _ (List.mem_of_getElem? (i := 10) rfl)
theorem m_419 : Cond.fieldLink RX8 142 "TankChainModel" "hasCustom" "Z" ∈ wsL_law := wr_r18 _ (List.mem_of_getElem? (i := 11) rfl)
theorem m_420 : Cond.methodLink RX8 159 yX8_blanks ∈ wsL_law := wr_r18 _ (List.mem_of_getElem? (i := 12) rfl)
theorem m_421 : Cond.instanceMethod yX8_blanks ∈ wsL_law := wr_r18 _ (List.mem_of_getElem? (i := 13) rfl)
theorem m_422 : Cond.selects RX8 yX8_blanks yX8_blanks ∈ wsL_law := wr_r18 _ (List.mem_of_getElem? (i := 14) rfl)
theorem m_423 : Cond.code yX8_blanks cX8_blanks 1 none ∈ wsL_law := wr_r18 _ (List.mem_of_getElem? (i := 15) rfl)
theorem m_424 : Cond.methodLink RX8 192 yX8_statement ∈ wsL_law := wr_r18 _ (List.mem_of_getElem? (i := 16) rfl)
theorem m_425 : Cond.instanceMethod yX8_statement ∈ wsL_law := wr_r18 _ (List.mem_of_getElem? (i := 17) rfl)
theorem m_426 : Cond.selects RX8 yX8_statement yX8_statement ∈ wsL_law := wr_r18 _ (List.mem_of_getElem? (i := 18) rfl)
theorem m_427 : Cond.code yX8_statement cX8_statement 2 (some .boolean) ∈ wsL_law := wr_r18 _ (List.mem_of_getElem? (i := 19) rfl)
theorem m_428 : Cond.constantLong RX8 172 (439855772532) ∈ wsL_law := wr_r18 _ (List.mem_of_getElem? (i := 20) rfl)
theorem m_429 : Cond.constantLong RX8 178 (127978976603237) ∈ wsL_law := wr_r18 _ (List.mem_of_getElem? (i := 21) rfl)
theorem m_430 : Cond.constantLong RX8 180 (495756340332) ∈ wsL_law := wr_r18 _ (List.mem_of_getElem? (i := 22) rfl)
theorem m_431 : Cond.constantLong RX8 182 (1852137842) ∈ wsL_law := wr_r18 _ (List.mem_of_getElem? (i := 23) rfl)
theorem wr_r19 : ∀ w ∈ wsL_law_r19, w ∈ wsL_law := fun w h => wr_in w (List.mem_append_right _ (List.mem_append_right _ (List.mem_append_right _ (List.mem_append_right _ (List.mem_append_right _ (List.mem_append_right _ (List.mem_append_right _ (List.mem_append_right _ (List.mem_append_right _ (List.mem_append_right _ (List.mem_append_right _ (List.mem_append_right _ (List.mem_append_right _ (List.mem_append_right _ (List.mem_append_right _ (List.mem_append_right _ (List.mem_append_right _ (List.mem_append_right _ (List.mem_append_left _ h)))))))))))))))))))
theorem m_432 : Cond.fieldLink RX8 169 "TankChainModel" "number" "I" ∈ wsL_law := wr_r19 _ (List.mem_of_getElem? (i := 0) rfl)
theorem m_433 : Cond.constantLong RX8 188 (1752132708) ∈ wsL_law := wr_r19 _ (List.mem_of_getElem? (i := 1) rfl)
theorem m_434 : Cond.constantLong RX8 190 (1717660018) ∈ wsL_law := wr_r19 _ (List.mem_of_getElem? (i := 2) rfl)
theorem m_435 : Cond.methodLink RX8 174 yX8_takes ∈ wsL_law := wr_r19 _ (List.mem_of_getElem? (i := 3) rfl)
theorem m_436 : Cond.instanceMethod yX8_takes ∈ wsL_law := wr_r19 _ (List.mem_of_getElem? (i := 4) rfl)
theorem m_437 : Cond.selects RX8 yX8_takes yX8_takes ∈ wsL_law := wr_r19 _ (List.mem_of_getElem? (i := 5) rfl)
theorem m_438 : Cond.code yX8_takes cX8_takes 3 (some .boolean) ∈ wsL_law := wr_r19 _ (List.mem_of_getElem? (i := 6) rfl)
theorem m_439 : Cond.fieldLink RX8 162 "TankChainModel" "wordEnd" "I" ∈ wsL_law := wr_r19 _ (List.mem_of_getElem? (i := 7) rfl)
theorem m_440 : Cond.methodLink RX8 165 yX8_word ∈ wsL_law := wr_r19 _ (List.mem_of_getElem? (i := 8) rfl)
theorem m_441 : Cond.instanceMethod yX8_word ∈ wsL_law := wr_r19 _ (List.mem_of_getElem? (i := 9) rfl)
theorem m_442 : Cond.selects RX8 yX8_word yX8_word ∈ wsL_law := wr_r19 _ (List.mem_of_getElem? (i := 10) rfl)
theorem m_443 : Cond.code yX8_word cX8_word 3 (some .long) ∈ wsL_law := wr_r19 _ (List.mem_of_getElem? (i := 11) rfl)
theorem m_444 : Cond.methodLink RX8 184 yX8_takesNumber ∈ wsL_law := wr_r19 _ (List.mem_of_getElem? (i := 12) rfl)
theorem m_445 : Cond.instanceMethod yX8_takesNumber ∈ wsL_law := wr_r19 _ (List.mem_of_getElem? (i := 13) rfl)
theorem m_446 : Cond.selects RX8 yX8_takesNumber yX8_takesNumber ∈ wsL_law := wr_r19 _ (List.mem_of_getElem? (i := 14) rfl)
theorem m_447 : Cond.code yX8_takesNumber cX8_takesNumber 2 (some .boolean) ∈ wsL_law := wr_r19 _ (List.mem_of_getElem? (i := 15) rfl)
theorem wr_r20 : ∀ w ∈ wsL_law_r20, w ∈ wsL_law := fun w h => wr_in w (List.mem_append_right _ (List.mem_append_right _ (List.mem_append_right _ (List.mem_append_right _ (List.mem_append_right _ (List.mem_append_right _ (List.mem_append_right _ (List.mem_append_right _ (List.mem_append_right _ (List.mem_append_right _ (List.mem_append_right _ (List.mem_append_right _ (List.mem_append_right _ (List.mem_append_right _ (List.mem_append_right _ (List.mem_append_right _ (List.mem_append_right _ (List.mem_append_right _ (List.mem_append_right _ (List.mem_append_left _ h))))))))))))))))))))
theorem m_460 : Cond.fieldLink RX7 174 "TankChain$Flow" "sums" "LTankChain$Sums;" ∈ wsL_law := wr_r20 _ (List.mem_of_getElem? (i := 4) rfl)
theorem m_461 : Cond.methodLink RX7 159 yX7_addSilt ∈ wsL_law := wr_r20 _ (List.mem_of_getElem? (i := 5) rfl)
theorem m_462 : Cond.instanceMethod yX7_addSilt ∈ wsL_law := wr_r20 _ (List.mem_of_getElem? (i := 6) rfl)
theorem m_463 : Cond.selects RX7 yX7_addSilt yX7_addSilt ∈ wsL_law := wr_r20 _ (List.mem_of_getElem? (i := 7) rfl)
theorem m_464 : Cond.code yX7_addSilt cX7_addSilt 2 none ∈ wsL_law := wr_r20 _ (List.mem_of_getElem? (i := 8) rfl)
theorem m_465 : Cond.methodLink RX7 162 yX2_startFromNow ∈ wsL_law := wr_r20 _ (List.mem_of_getElem? (i := 9) rfl)
theorem m_466 : Cond.instanceMethod yX2_startFromNow ∈ wsL_law := wr_r20 _ (List.mem_of_getElem? (i := 10) rfl)
theorem m_467 : Cond.selects RX2 yX2_startFromNow yX2_startFromNow ∈ wsL_law := wr_r20 _ (List.mem_of_getElem? (i := 11) rfl)
theorem m_468 : Cond.code yX2_startFromNow cX2_startFromNow 2 none ∈ wsL_law := wr_r20 _ (List.mem_of_getElem? (i := 12) rfl)
theorem m_469 : Cond.fieldLink RX2 30 "TankChain$Tank" "after" "LTankChain$Pool;" ∈ wsL_law := wr_r20 _ (List.mem_of_getElem? (i := 13) rfl)
theorem m_470 : Cond.fieldLink RX2 36 "TankChain$Tank" "now" "LTankChain$Pool;" ∈ wsL_law := wr_r20 _ (List.mem_of_getElem? (i := 14) rfl)
theorem m_471 : Cond.fieldLink RX2 45 "TankChain$Tank" "below" "LTankChain$Tank;" ∈ wsL_law := wr_r20 _ (List.mem_of_getElem? (i := 15) rfl)
theorem m_472 : Cond.methodLink RX2 39 yX3_becomeAs ∈ wsL_law := wr_r20 _ (List.mem_of_getElem? (i := 16) rfl)
theorem m_473 : Cond.instanceMethod yX3_becomeAs ∈ wsL_law := wr_r20 _ (List.mem_of_getElem? (i := 17) rfl)
theorem m_474 : Cond.selects RX3 yX3_becomeAs yX3_becomeAs ∈ wsL_law := wr_r20 _ (List.mem_of_getElem? (i := 18) rfl)
theorem m_475 : Cond.code yX3_becomeAs cX3_becomeAs 2 none ∈ wsL_law := wr_r20 _ (List.mem_of_getElem? (i := 19) rfl)
theorem m_476 : Cond.methodLink RX7 165 yX2_passDay ∈ wsL_law := wr_r20 _ (List.mem_of_getElem? (i := 20) rfl)
theorem m_477 : Cond.instanceMethod yX2_passDay ∈ wsL_law := wr_r20 _ (List.mem_of_getElem? (i := 21) rfl)
theorem m_478 : Cond.selects RX2 yX2_passDay yX2_passDay ∈ wsL_law := wr_r20 _ (List.mem_of_getElem? (i := 22) rfl)
theorem m_479 : Cond.code yX2_passDay cX2_passDay 4 none ∈ wsL_law := wr_r20 _ (List.mem_of_getElem? (i := 23) rfl)
theorem wr_r21 : ∀ w ∈ wsL_law_r21, w ∈ wsL_law := fun w h => wr_in w (List.mem_append_right _ (List.mem_append_right _ (List.mem_append_right _ (List.mem_append_right _ (List.mem_append_right _ (List.mem_append_right _ (List.mem_append_right _ (List.mem_append_right _ (List.mem_append_right _ (List.mem_append_right _ (List.mem_append_right _ (List.mem_append_right _ (List.mem_append_right _ (List.mem_append_right _ (List.mem_append_right _ (List.mem_append_right _ (List.mem_append_right _ (List.mem_append_right _ (List.mem_append_right _ (List.mem_append_right _ (List.mem_append_left _ h)))))))))))))))))))))
theorem m_480 : Cond.fieldLink RX2 51 "TankChain$Tank" "catches" "I" ∈ wsL_law := wr_r21 _ (List.mem_of_getElem? (i := 0) rfl)
theorem m_481 : Cond.fieldLink RX2 58 "TankChain$Sums" "out" "I" ∈ wsL_law := wr_r21 _ (List.mem_of_getElem? (i := 1) rfl)
theorem m_482 : Cond.methodLink RX2 48 yX4_clear ∈ wsL_law := wr_r21 _ (List.mem_of_getElem? (i := 2) rfl)
theorem m_483 : Cond.instanceMethod yX4_clear ∈ wsL_law := wr_r21 _ (List.mem_of_getElem? (i := 3) rfl)
theorem m_484 : Cond.selects RX4 yX4_clear yX4_clear ∈ wsL_law := wr_r21 _ (List.mem_of_getElem? (i := 4) rfl)
theorem m_485 : Cond.code yX4_clear cX4_clear 1 none ∈ wsL_law := wr_r21 _ (List.mem_of_getElem? (i := 5) rfl)
theorem m_486 : Cond.methodLink RX2 54 yX2_sentDown ∈ wsL_law := wr_r21 _ (List.mem_of_getElem? (i := 6) rfl)
theorem m_487 : Cond.instanceMethod yX2_sentDown ∈ wsL_law := wr_r21 _ (List.mem_of_getElem? (i := 7) rfl)
theorem m_488 : Cond.selects RX2 yX2_sentDown yX2_sentDown ∈ wsL_law := wr_r21 _ (List.mem_of_getElem? (i := 8) rfl)
theorem m_489 : Cond.code yX2_sentDown cX2_sentDown 10 (some .int) ∈ wsL_law := wr_r21 _ (List.mem_of_getElem? (i := 9) rfl)
theorem m_490 : Cond.fieldLink RX2 61 "TankChain$Pool" "water" "I" ∈ wsL_law := wr_r21 _ (List.mem_of_getElem? (i := 10) rfl)
theorem m_491 : Cond.fieldLink RX2 68 "TankChain$Pool" "breached" "Z" ∈ wsL_law := wr_r21 _ (List.mem_of_getElem? (i := 11) rfl)
theorem m_492 : Cond.methodLink RX2 76 Lib.Math.max.name ∈ wsL_law := wr_r21 _ (List.mem_of_getElem? (i := 12) rfl)
theorem m_493 : Cond.fieldLink RX2 82 "TankChain$Tank" "bank" "I" ∈ wsL_law := wr_r21 _ (List.mem_of_getElem? (i := 13) rfl)
theorem m_494 : Cond.fieldLink RX2 85 "TankChain$Pool" "taken" "I" ∈ wsL_law := wr_r21 _ (List.mem_of_getElem? (i := 14) rfl)
theorem m_495 : Cond.fieldLink RX2 88 "TankChain$Pool" "spilt" "I" ∈ wsL_law := wr_r21 _ (List.mem_of_getElem? (i := 15) rfl)
theorem m_496 : Cond.fieldLink RX2 91 "TankChain$Sums" "rained" "I" ∈ wsL_law := wr_r21 _ (List.mem_of_getElem? (i := 16) rfl)
theorem m_497 : Cond.fieldLink RX2 94 "TankChain$Sums" "seeped" "I" ∈ wsL_law := wr_r21 _ (List.mem_of_getElem? (i := 17) rfl)
theorem m_498 : Cond.fieldLink RX2 97 "TankChain$Sums" "kept" "I" ∈ wsL_law := wr_r21 _ (List.mem_of_getElem? (i := 18) rfl)
theorem m_499 : Cond.methodLink RX2 64 yX2_takenByFields ∈ wsL_law := wr_r21 _ (List.mem_of_getElem? (i := 19) rfl)
theorem m_500 : Cond.instanceMethod yX2_takenByFields ∈ wsL_law := wr_r21 _ (List.mem_of_getElem? (i := 20) rfl)
theorem m_501 : Cond.selects RX2 yX2_takenByFields yX2_takenByFields ∈ wsL_law := wr_r21 _ (List.mem_of_getElem? (i := 21) rfl)
theorem m_502 : Cond.code yX2_takenByFields cX2_takenByFields 9 (some .int) ∈ wsL_law := wr_r21 _ (List.mem_of_getElem? (i := 22) rfl)
theorem m_503 : Cond.fieldLink RX2 100 "TankChain$Tank" "size" "I" ∈ wsL_law := wr_r21 _ (List.mem_of_getElem? (i := 23) rfl)
theorem wr_r22 : ∀ w ∈ wsL_law_r22, w ∈ wsL_law := fun w h => wr_in w (List.mem_append_right _ (List.mem_append_right _ (List.mem_append_right _ (List.mem_append_right _ (List.mem_append_right _ (List.mem_append_right _ (List.mem_append_right _ (List.mem_append_right _ (List.mem_append_right _ (List.mem_append_right _ (List.mem_append_right _ (List.mem_append_right _ (List.mem_append_right _ (List.mem_append_right _ (List.mem_append_right _ (List.mem_append_right _ (List.mem_append_right _ (List.mem_append_right _ (List.mem_append_right _ (List.mem_append_right _ (List.mem_append_right _ (List.mem_append_left _ h))))))))))))))))))))))
theorem m_504 : Cond.fieldLink RX2 103 "TankChain$Custom" "hold" "I" ∈ wsL_law := wr_r22 _ (List.mem_of_getElem? (i := 0) rfl)
theorem m_505 : Cond.fieldLink RX2 108 "TankChain$Pool" "opening" "I" ∈ wsL_law := wr_r22 _ (List.mem_of_getElem? (i := 1) rfl)
theorem m_506 : Cond.methodLink RX2 111 Lib.Math.min.name ∈ wsL_law := wr_r22 _ (List.mem_of_getElem? (i := 2) rfl)
theorem m_507 : Cond.fieldLink RX2 118 "TankChain$Custom" "near" "I" ∈ wsL_law := wr_r22 _ (List.mem_of_getElem? (i := 3) rfl)
theorem m_508 : Cond.fieldLink RX2 124 "TankChain$Custom" "fair" "Z" ∈ wsL_law := wr_r22 _ (List.mem_of_getElem? (i := 4) rfl)
theorem m_509 : Cond.fieldLink RX2 135 "TankChain$Tank" "firstField" "LTankChain$Field;" ∈ wsL_law := wr_r22 _ (List.mem_of_getElem? (i := 5) rfl)
theorem m_510 : Cond.fieldLink RX2 139 "TankChain$Field" "share" "I" ∈ wsL_law := wr_r22 _ (List.mem_of_getElem? (i := 6) rfl)
theorem m_511 : Cond.fieldLink RX2 148 "TankChain$Field" "area" "I" ∈ wsL_law := wr_r22 _ (List.mem_of_getElem? (i := 7) rfl)
theorem m_512 : Cond.fieldLink RX2 151 "TankChain$Field" "next" "LTankChain$Field;" ∈ wsL_law := wr_r22 _ (List.mem_of_getElem? (i := 8) rfl)
theorem m_513 : Cond.methodLink RX2 114 yX5_isBadYearWith ∈ wsL_law := wr_r22 _ (List.mem_of_getElem? (i := 9) rfl)
theorem m_514 : Cond.instanceMethod yX5_isBadYearWith ∈ wsL_law := wr_r22 _ (List.mem_of_getElem? (i := 10) rfl)
theorem m_515 : Cond.selects RX5 yX5_isBadYearWith yX5_isBadYearWith ∈ wsL_law := wr_r22 _ (List.mem_of_getElem? (i := 11) rfl)
theorem m_516 : Cond.code yX5_isBadYearWith cX5_isBadYearWith 2 (some .boolean) ∈ wsL_law := wr_r22 _ (List.mem_of_getElem? (i := 12) rfl)
theorem m_517 : Cond.methodLink RX2 121 yX2_areasWithin ∈ wsL_law := wr_r22 _ (List.mem_of_getElem? (i := 13) rfl)
theorem m_518 : Cond.static yX2_areasWithin ∈ wsL_law := wr_r22 _ (List.mem_of_getElem? (i := 14) rfl)
theorem m_519 : Cond.code yX2_areasWithin cX2_areasWithin 4 (some .int) ∈ wsL_law := wr_r22 _ (List.mem_of_getElem? (i := 15) rfl)
theorem m_520 : Cond.fieldLink RX2 154 "TankChain$Field" "far" "I" ∈ wsL_law := wr_r22 _ (List.mem_of_getElem? (i := 16) rfl)
theorem m_521 : Cond.methodLink RX2 127 yX2_shareFairly ∈ wsL_law := wr_r22 _ (List.mem_of_getElem? (i := 17) rfl)
theorem m_522 : Cond.static yX2_shareFairly ∈ wsL_law := wr_r22 _ (List.mem_of_getElem? (i := 18) rfl)
theorem m_523 : Cond.code yX2_shareFairly cX2_shareFairly 7 none ∈ wsL_law := wr_r22 _ (List.mem_of_getElem? (i := 19) rfl)
theorem m_524 : Cond.fieldLink RX2 157 "TankChain$Field" "remainder" "I" ∈ wsL_law := wr_r22 _ (List.mem_of_getElem? (i := 20) rfl)
theorem m_525 : Cond.methodLink RX2 160 yX2_giveOneMore ∈ wsL_law := wr_r22 _ (List.mem_of_getElem? (i := 21) rfl)
theorem m_526 : Cond.static yX2_giveOneMore ∈ wsL_law := wr_r22 _ (List.mem_of_getElem? (i := 22) rfl)
theorem m_527 : Cond.code yX2_giveOneMore cX2_giveOneMore 4 none ∈ wsL_law := wr_r22 _ (List.mem_of_getElem? (i := 23) rfl)
theorem wr_r23 : ∀ w ∈ wsL_law_r23, w ∈ wsL_law := fun w h => wr_in w (List.mem_append_right _ (List.mem_append_right _ (List.mem_append_right _ (List.mem_append_right _ (List.mem_append_right _ (List.mem_append_right _ (List.mem_append_right _ (List.mem_append_right _ (List.mem_append_right _ (List.mem_append_right _ (List.mem_append_right _ (List.mem_append_right _ (List.mem_append_right _ (List.mem_append_right _ (List.mem_append_right _ (List.mem_append_right _ (List.mem_append_right _ (List.mem_append_right _ (List.mem_append_right _ (List.mem_append_right _ (List.mem_append_right _ (List.mem_append_right _ (List.mem_append_left _ h)))))))))))))))))))))))
theorem m_528 : Cond.methodLink RX2 131 yX2_shareInOrder ∈ wsL_law := wr_r23 _ (List.mem_of_getElem? (i := 0) rfl)
theorem m_529 : Cond.static yX2_shareInOrder ∈ wsL_law := wr_r23 _ (List.mem_of_getElem? (i := 1) rfl)
theorem m_530 : Cond.code yX2_shareInOrder cX2_shareInOrder 5 none ∈ wsL_law := wr_r23 _ (List.mem_of_getElem? (i := 2) rfl)
theorem m_531 : Cond.methodLink RX2 144 yX1_isFed ∈ wsL_law := wr_r23 _ (List.mem_of_getElem? (i := 3) rfl)
theorem m_532 : Cond.instanceMethod yX1_isFed ∈ wsL_law := wr_r23 _ (List.mem_of_getElem? (i := 4) rfl)
theorem m_533 : Cond.selects RX1 yX1_isFed yX1_isFed ∈ wsL_law := wr_r23 _ (List.mem_of_getElem? (i := 5) rfl)
theorem m_534 : Cond.code yX1_isFed cX1_isFed 1 (some .boolean) ∈ wsL_law := wr_r23 _ (List.mem_of_getElem? (i := 6) rfl)
theorem m_535 : Cond.methodLink RX2 72 yX5_roomIf ∈ wsL_law := wr_r23 _ (List.mem_of_getElem? (i := 7) rfl)
theorem m_536 : Cond.methodLink RX7 168 yX7_keepTanks ∈ wsL_law := wr_r23 _ (List.mem_of_getElem? (i := 8) rfl)
theorem m_537 : Cond.instanceMethod yX7_keepTanks ∈ wsL_law := wr_r23 _ (List.mem_of_getElem? (i := 9) rfl)
theorem m_538 : Cond.selects RX7 yX7_keepTanks yX7_keepTanks ∈ wsL_law := wr_r23 _ (List.mem_of_getElem? (i := 10) rfl)
theorem m_539 : Cond.code yX7_keepTanks cX7_keepTanks 4 none ∈ wsL_law := wr_r23 _ (List.mem_of_getElem? (i := 11) rfl)
theorem m_540 : Cond.fieldLink RX7 274 "TankChain$Tank" "after" "LTankChain$Pool;" ∈ wsL_law := wr_r23 _ (List.mem_of_getElem? (i := 12) rfl)
theorem m_541 : Cond.fieldLink RX7 190 "TankChain$Tank" "breachedOn" "I" ∈ wsL_law := wr_r23 _ (List.mem_of_getElem? (i := 13) rfl)
theorem m_542 : Cond.fieldLink RX7 277 "TankChain$Tank" "number" "I" ∈ wsL_law := wr_r23 _ (List.mem_of_getElem? (i := 14) rfl)
theorem m_543 : Cond.methodLink RX7 278 yX3_becomeAs ∈ wsL_law := wr_r23 _ (List.mem_of_getElem? (i := 15) rfl)
theorem m_544 : Cond.methodLink RX7 171 yX7_keepFields ∈ wsL_law := wr_r23 _ (List.mem_of_getElem? (i := 16) rfl)
theorem m_545 : Cond.instanceMethod yX7_keepFields ∈ wsL_law := wr_r23 _ (List.mem_of_getElem? (i := 17) rfl)
theorem m_546 : Cond.selects RX7 yX7_keepFields yX7_keepFields ∈ wsL_law := wr_r23 _ (List.mem_of_getElem? (i := 18) rfl)
theorem m_547 : Cond.code yX7_keepFields cX7_keepFields 3 none ∈ wsL_law := wr_r23 _ (List.mem_of_getElem? (i := 19) rfl)
theorem m_548 : Cond.methodLink RX7 281 yX1_keepShare ∈ wsL_law := wr_r23 _ (List.mem_of_getElem? (i := 20) rfl)
theorem m_549 : Cond.instanceMethod yX1_keepShare ∈ wsL_law := wr_r23 _ (List.mem_of_getElem? (i := 21) rfl)
theorem m_550 : Cond.selects RX1 yX1_keepShare yX1_keepShare ∈ wsL_law := wr_r23 _ (List.mem_of_getElem? (i := 22) rfl)
theorem m_551 : Cond.code yX1_keepShare cX1_keepShare 1 none ∈ wsL_law := wr_r23 _ (List.mem_of_getElem? (i := 23) rfl)
theorem wr_r24 : ∀ w ∈ wsL_law_r24, w ∈ wsL_law := fun w h => wr_in w (List.mem_append_right _ (List.mem_append_right _ (List.mem_append_right _ (List.mem_append_right _ (List.mem_append_right _ (List.mem_append_right _ (List.mem_append_right _ (List.mem_append_right _ (List.mem_append_right _ (List.mem_append_right _ (List.mem_append_right _ (List.mem_append_right _ (List.mem_append_right _ (List.mem_append_right _ (List.mem_append_right _ (List.mem_append_right _ (List.mem_append_right _ (List.mem_append_right _ (List.mem_append_right _ (List.mem_append_right _ (List.mem_append_right _ (List.mem_append_right _ (List.mem_append_right _ (List.mem_append_left _ h))))))))))))))))))))))))
theorem m_552 : Cond.methodLink RX1 48 yX1_isFed ∈ wsL_law := wr_r24 _ (List.mem_of_getElem? (i := 0) rfl)
theorem m_553 : Cond.methodLink RX7 177 yX4_addAll ∈ wsL_law := wr_r24 _ (List.mem_of_getElem? (i := 1) rfl)
theorem m_554 : Cond.instanceMethod yX4_addAll ∈ wsL_law := wr_r24 _ (List.mem_of_getElem? (i := 2) rfl)
theorem m_555 : Cond.selects RX4 yX4_addAll yX4_addAll ∈ wsL_law := wr_r24 _ (List.mem_of_getElem? (i := 3) rfl)
theorem m_556 : Cond.code yX4_addAll cX4_addAll 2 none ∈ wsL_law := wr_r24 _ (List.mem_of_getElem? (i := 4) rfl)
theorem m_561 : Cond.fieldLink RX8 229 "TankChainModel" "rain" "I" ∈ wsL_law := wr_r24 _ (List.mem_of_getElem? (i := 9) rfl)
theorem m_562 : Cond.methodLink RX8 232 yX8_flows ∈ wsL_law := wr_r24 _ (List.mem_of_getElem? (i := 10) rfl)
theorem m_563 : Cond.instanceMethod yX8_flows ∈ wsL_law := wr_r24 _ (List.mem_of_getElem? (i := 11) rfl)
theorem m_564 : Cond.selects RX8 yX8_flows yX8_flows ∈ wsL_law := wr_r24 _ (List.mem_of_getElem? (i := 12) rfl)
theorem m_565 : Cond.code yX8_flows cX8_flows 16 (some .int) ∈ wsL_law := wr_r24 _ (List.mem_of_getElem? (i := 13) rfl)
theorem m_566 : Cond.fieldLink RX8 217 "TankChainModel" "seeped" "I" ∈ wsL_law := wr_r24 _ (List.mem_of_getElem? (i := 14) rfl)
theorem m_567 : Cond.fieldLink RX8 220 "TankChainModel" "kept" "I" ∈ wsL_law := wr_r24 _ (List.mem_of_getElem? (i := 15) rfl)
theorem m_568 : Cond.fieldLink RX8 223 "TankChainModel" "rained" "I" ∈ wsL_law := wr_r24 _ (List.mem_of_getElem? (i := 16) rfl)
theorem m_569 : Cond.fieldLink RX8 226 "TankChainModel" "out" "I" ∈ wsL_law := wr_r24 _ (List.mem_of_getElem? (i := 17) rfl)
theorem m_570 : Cond.methodLink RX8 213 yX8_gives ∈ wsL_law := wr_r24 _ (List.mem_of_getElem? (i := 18) rfl)
theorem m_571 : Cond.instanceMethod yX8_gives ∈ wsL_law := wr_r24 _ (List.mem_of_getElem? (i := 19) rfl)
theorem m_572 : Cond.selects RX8 yX8_gives yX8_gives ∈ wsL_law := wr_r24 _ (List.mem_of_getElem? (i := 20) rfl)
theorem m_573 : Cond.code yX8_gives cX8_gives 11 (some .int) ∈ wsL_law := wr_r24 _ (List.mem_of_getElem? (i := 21) rfl)
theorem m_574 : Cond.methodLink RX8 195 yX8_custom ∈ wsL_law := wr_r24 _ (List.mem_of_getElem? (i := 22) rfl)
theorem m_575 : Cond.instanceMethod yX8_custom ∈ wsL_law := wr_r24 _ (List.mem_of_getElem? (i := 23) rfl)
theorem wr_r25 : ∀ w ∈ wsL_law_r25, w ∈ wsL_law := fun w h => wr_in w (List.mem_append_right _ (List.mem_append_right _ (List.mem_append_right _ (List.mem_append_right _ (List.mem_append_right _ (List.mem_append_right _ (List.mem_append_right _ (List.mem_append_right _ (List.mem_append_right _ (List.mem_append_right _ (List.mem_append_right _ (List.mem_append_right _ (List.mem_append_right _ (List.mem_append_right _ (List.mem_append_right _ (List.mem_append_right _ (List.mem_append_right _ (List.mem_append_right _ (List.mem_append_right _ (List.mem_append_right _ (List.mem_append_right _ (List.mem_append_right _ (List.mem_append_right _ (List.mem_append_right _ (List.mem_append_left _ h)))))))))))))))))))))))))
theorem m_576 : Cond.selects RX8 yX8_custom yX8_custom ∈ wsL_law := wr_r25 _ (List.mem_of_getElem? (i := 0) rfl)
theorem m_577 : Cond.code yX8_custom cX8_custom 3 (some .int) ∈ wsL_law := wr_r25 _ (List.mem_of_getElem? (i := 1) rfl)
theorem m_578 : Cond.methodLink RX8 206 yX8_ordered ∈ wsL_law := wr_r25 _ (List.mem_of_getElem? (i := 2) rfl)
theorem m_579 : Cond.instanceMethod yX8_ordered ∈ wsL_law := wr_r25 _ (List.mem_of_getElem? (i := 3) rfl)
theorem m_580 : Cond.selects RX8 yX8_ordered yX8_ordered ∈ wsL_law := wr_r25 _ (List.mem_of_getElem? (i := 4) rfl)
theorem m_581 : Cond.code yX8_ordered cX8_ordered 5 (some .int) ∈ wsL_law := wr_r25 _ (List.mem_of_getElem? (i := 5) rfl)
theorem m_582 : Cond.methodLink RX8 202 yX8_isAhead ∈ wsL_law := wr_r25 _ (List.mem_of_getElem? (i := 6) rfl)
theorem m_583 : Cond.instanceMethod yX8_isAhead ∈ wsL_law := wr_r25 _ (List.mem_of_getElem? (i := 7) rfl)
theorem m_584 : Cond.selects RX8 yX8_isAhead yX8_isAhead ∈ wsL_law := wr_r25 _ (List.mem_of_getElem? (i := 8) rfl)
theorem m_585 : Cond.code yX8_isAhead cX8_isAhead 5 (some .boolean) ∈ wsL_law := wr_r25 _ (List.mem_of_getElem? (i := 9) rfl)
theorem m_586 : Cond.methodLink RX8 198 yX8_one ∈ wsL_law := wr_r25 _ (List.mem_of_getElem? (i := 10) rfl)
theorem m_587 : Cond.static yX8_one ∈ wsL_law := wr_r25 _ (List.mem_of_getElem? (i := 11) rfl)
theorem m_588 : Cond.code yX8_one cX8_one 1 (some .int) ∈ wsL_law := wr_r25 _ (List.mem_of_getElem? (i := 12) rfl)
theorem m_589 : Cond.methodLink RX8 210 yX8_isBad ∈ wsL_law := wr_r25 _ (List.mem_of_getElem? (i := 13) rfl)
theorem m_590 : Cond.instanceMethod yX8_isBad ∈ wsL_law := wr_r25 _ (List.mem_of_getElem? (i := 14) rfl)
theorem m_591 : Cond.selects RX8 yX8_isBad yX8_isBad ∈ wsL_law := wr_r25 _ (List.mem_of_getElem? (i := 15) rfl)
theorem m_592 : Cond.code yX8_isBad cX8_isBad 3 (some .boolean) ∈ wsL_law := wr_r25 _ (List.mem_of_getElem? (i := 16) rfl)
theorem m_597 : Cond.fieldLink RX7 184 "TankChain$Pool" "taken" "I" ∈ wsL_law := wr_r25 _ (List.mem_of_getElem? (i := 21) rfl)
theorem m_598 : Cond.fieldLink RX7 187 "TankChain$Pool" "spilt" "I" ∈ wsL_law := wr_r25 _ (List.mem_of_getElem? (i := 22) rfl)
theorem m_599 : Cond.methodLink RX7 181 yX7_asNumber ∈ wsL_law := wr_r25 _ (List.mem_of_getElem? (i := 23) rfl)
theorem wr_r26 : ∀ w ∈ wsL_law_r26, w ∈ wsL_law := fun w h => wr_in w (List.mem_append_right _ (List.mem_append_right _ (List.mem_append_right _ (List.mem_append_right _ (List.mem_append_right _ (List.mem_append_right _ (List.mem_append_right _ (List.mem_append_right _ (List.mem_append_right _ (List.mem_append_right _ (List.mem_append_right _ (List.mem_append_right _ (List.mem_append_right _ (List.mem_append_right _ (List.mem_append_right _ (List.mem_append_right _ (List.mem_append_right _ (List.mem_append_right _ (List.mem_append_right _ (List.mem_append_right _ (List.mem_append_right _ (List.mem_append_right _ (List.mem_append_right _ (List.mem_append_right _ (List.mem_append_right _ (List.mem_append_left _ h))))))))))))))))))))))))))
theorem m_600 : Cond.static yX7_asNumber ∈ wsL_law := wr_r26 _ (List.mem_of_getElem? (i := 0) rfl)
theorem m_601 : Cond.code yX7_asNumber cX7_asNumber 1 (some .int) ∈ wsL_law := wr_r26 _ (List.mem_of_getElem? (i := 1) rfl)
theorem m_602 : Cond.methodLink RX7 193 yX5_isBadYearWith ∈ wsL_law := wr_r26 _ (List.mem_of_getElem? (i := 2) rfl)
theorem m_611 : Cond.fieldLink RX7 204 "TankChain$Field" "far" "I" ∈ wsL_law := wr_r26 _ (List.mem_of_getElem? (i := 11) rfl)
theorem m_612 : Cond.fieldLink RX7 207 "TankChain$Field" "area" "I" ∈ wsL_law := wr_r26 _ (List.mem_of_getElem? (i := 12) rfl)
theorem m_613 : Cond.fieldLink RX7 210 "TankChain$Field" "owner" "I" ∈ wsL_law := wr_r26 _ (List.mem_of_getElem? (i := 13) rfl)
theorem m_614 : Cond.fieldLink RX7 213 "TankChain$Field" "temple" "Z" ∈ wsL_law := wr_r26 _ (List.mem_of_getElem? (i := 14) rfl)
theorem m_615 : Cond.fieldLink RX7 216 "TankChain$Field" "daysFed" "I" ∈ wsL_law := wr_r26 _ (List.mem_of_getElem? (i := 15) rfl)
theorem m_616 : Cond.fieldLink RX7 219 "TankChain$Field" "gotEver" "I" ∈ wsL_law := wr_r26 _ (List.mem_of_getElem? (i := 16) rfl)
theorem m_617 : Cond.fieldLink RX7 222 "TankChain$Field" "gotLately" "I" ∈ wsL_law := wr_r26 _ (List.mem_of_getElem? (i := 17) rfl)
theorem wr_r27 : ∀ w ∈ wsL_law_r27, w ∈ wsL_law := fun w h => wr_in w (List.mem_append_right _ (List.mem_append_right _ (List.mem_append_right _ (List.mem_append_right _ (List.mem_append_right _ (List.mem_append_right _ (List.mem_append_right _ (List.mem_append_right _ (List.mem_append_right _ (List.mem_append_right _ (List.mem_append_right _ (List.mem_append_right _ (List.mem_append_right _ (List.mem_append_right _ (List.mem_append_right _ (List.mem_append_right _ (List.mem_append_right _ (List.mem_append_right _ (List.mem_append_right _ (List.mem_append_right _ (List.mem_append_right _ (List.mem_append_right _ (List.mem_append_right _ (List.mem_append_right _ (List.mem_append_right _ (List.mem_append_right _ (List.mem_append_left _ h)))))))))))))))))))))))))))
theorem m_626 : Cond.fieldLink RX7 229 "TankChain$Field" "number" "I" ∈ wsL_law := wr_r27 _ (List.mem_of_getElem? (i := 2) rfl)
theorem m_627 : Cond.fieldLink RX7 232 "TankChain$Field" "next" "LTankChain$Field;" ∈ wsL_law := wr_r27 _ (List.mem_of_getElem? (i := 3) rfl)
theorem m_644 : Cond.methodLink RX7 235 yX7_mayTry ∈ wsL_law := wr_r27 _ (List.mem_of_getElem? (i := 20) rfl)
theorem m_645 : Cond.static yX7_mayTry ∈ wsL_law := wr_r27 _ (List.mem_of_getElem? (i := 21) rfl)
theorem m_646 : Cond.code yX7_mayTry cX7_mayTry 2 (some .boolean) ∈ wsL_law := wr_r27 _ (List.mem_of_getElem? (i := 22) rfl)
theorem m_647 : Cond.methodLink RX7 239 yX7_waterTried ∈ wsL_law := wr_r27 _ (List.mem_of_getElem? (i := 23) rfl)
theorem wr_r28 : ∀ w ∈ wsL_law_r28, w ∈ wsL_law := fun w h => wr_in w (List.mem_append_right _ (List.mem_append_right _ (List.mem_append_right _ (List.mem_append_right _ (List.mem_append_right _ (List.mem_append_right _ (List.mem_append_right _ (List.mem_append_right _ (List.mem_append_right _ (List.mem_append_right _ (List.mem_append_right _ (List.mem_append_right _ (List.mem_append_right _ (List.mem_append_right _ (List.mem_append_right _ (List.mem_append_right _ (List.mem_append_right _ (List.mem_append_right _ (List.mem_append_right _ (List.mem_append_right _ (List.mem_append_right _ (List.mem_append_right _ (List.mem_append_right _ (List.mem_append_right _ (List.mem_append_right _ (List.mem_append_right _ (List.mem_append_right _ (List.mem_append_left _ h))))))))))))))))))))))))))))
theorem m_648 : Cond.instanceMethod yX7_waterTried ∈ wsL_law := wr_r28 _ (List.mem_of_getElem? (i := 0) rfl)
theorem m_649 : Cond.selects RX7 yX7_waterTried yX7_waterTried ∈ wsL_law := wr_r28 _ (List.mem_of_getElem? (i := 1) rfl)
theorem m_650 : Cond.code yX7_waterTried cX7_waterTried 6 (some .int) ∈ wsL_law := wr_r28 _ (List.mem_of_getElem? (i := 2) rfl)
theorem m_655 : Cond.methodLink RX8 236 yX8_isTrial ∈ wsL_law := wr_r28 _ (List.mem_of_getElem? (i := 7) rfl)
theorem m_656 : Cond.static yX8_isTrial ∈ wsL_law := wr_r28 _ (List.mem_of_getElem? (i := 8) rfl)
theorem m_657 : Cond.code yX8_isTrial cX8_isTrial 2 (some .boolean) ∈ wsL_law := wr_r28 _ (List.mem_of_getElem? (i := 9) rfl)
theorem m_658 : Cond.methodLink RX8 239 yX8_openings ∈ wsL_law := wr_r28 _ (List.mem_of_getElem? (i := 10) rfl)
theorem m_659 : Cond.instanceMethod yX8_openings ∈ wsL_law := wr_r28 _ (List.mem_of_getElem? (i := 11) rfl)
theorem m_660 : Cond.selects RX8 yX8_openings yX8_openings ∈ wsL_law := wr_r28 _ (List.mem_of_getElem? (i := 12) rfl)
theorem m_661 : Cond.code yX8_openings cX8_openings 2 none ∈ wsL_law := wr_r28 _ (List.mem_of_getElem? (i := 13) rfl)
theorem m_662 : Cond.methodLink RX8 242 yX8_tries ∈ wsL_law := wr_r28 _ (List.mem_of_getElem? (i := 14) rfl)
theorem m_663 : Cond.instanceMethod yX8_tries ∈ wsL_law := wr_r28 _ (List.mem_of_getElem? (i := 15) rfl)
theorem m_664 : Cond.selects RX8 yX8_tries yX8_tries ∈ wsL_law := wr_r28 _ (List.mem_of_getElem? (i := 16) rfl)
theorem m_665 : Cond.code yX8_tries cX8_tries 5 (some .int) ∈ wsL_law := wr_r28 _ (List.mem_of_getElem? (i := 17) rfl)
theorem m_670 : Cond.constant RX7 243 (-100000) ∈ wsL_law := wr_r28 _ (List.mem_of_getElem? (i := 22) rfl)
theorem wr_r29 : ∀ w ∈ wsL_law_r29, w ∈ wsL_law := fun w h => wr_in w (List.mem_append_right _ (List.mem_append_right _ (List.mem_append_right _ (List.mem_append_right _ (List.mem_append_right _ (List.mem_append_right _ (List.mem_append_right _ (List.mem_append_right _ (List.mem_append_right _ (List.mem_append_right _ (List.mem_append_right _ (List.mem_append_right _ (List.mem_append_right _ (List.mem_append_right _ (List.mem_append_right _ (List.mem_append_right _ (List.mem_append_right _ (List.mem_append_right _ (List.mem_append_right _ (List.mem_append_right _ (List.mem_append_right _ (List.mem_append_right _ (List.mem_append_right _ (List.mem_append_right _ (List.mem_append_right _ (List.mem_append_right _ (List.mem_append_right _ (List.mem_append_right _ (List.mem_append_left _ h)))))))))))))))))))))))))))))
theorem m_675 : Cond.constant RX8 245 (-100000) ∈ wsL_law := wr_r29 _ (List.mem_of_getElem? (i := 3) rfl)
theorem m_680 : Cond.methodLink RX7 244 yX7_areasFedBy ∈ wsL_law := wr_r29 _ (List.mem_of_getElem? (i := 8) rfl)
theorem m_681 : Cond.instanceMethod yX7_areasFedBy ∈ wsL_law := wr_r29 _ (List.mem_of_getElem? (i := 9) rfl)
theorem m_682 : Cond.selects RX7 yX7_areasFedBy yX7_areasFedBy ∈ wsL_law := wr_r29 _ (List.mem_of_getElem? (i := 10) rfl)
theorem m_683 : Cond.code yX7_areasFedBy cX7_areasFedBy 8 (some .int) ∈ wsL_law := wr_r29 _ (List.mem_of_getElem? (i := 11) rfl)
theorem m_684 : Cond.fieldLink RX7 284 "TankChain$Flow" "areasFed" "I" ∈ wsL_law := wr_r29 _ (List.mem_of_getElem? (i := 12) rfl)
theorem m_685 : Cond.methodLink RX7 248 yX7_openingIn ∈ wsL_law := wr_r29 _ (List.mem_of_getElem? (i := 13) rfl)
theorem m_686 : Cond.static yX7_openingIn ∈ wsL_law := wr_r29 _ (List.mem_of_getElem? (i := 14) rfl)
theorem m_687 : Cond.code yX7_openingIn cX7_openingIn 4 (some .int) ∈ wsL_law := wr_r29 _ (List.mem_of_getElem? (i := 15) rfl)
theorem wr_r30 : ∀ w ∈ wsL_law_r30, w ∈ wsL_law := fun w h => wr_in w (List.mem_append_right _ (List.mem_append_right _ (List.mem_append_right _ (List.mem_append_right _ (List.mem_append_right _ (List.mem_append_right _ (List.mem_append_right _ (List.mem_append_right _ (List.mem_append_right _ (List.mem_append_right _ (List.mem_append_right _ (List.mem_append_right _ (List.mem_append_right _ (List.mem_append_right _ (List.mem_append_right _ (List.mem_append_right _ (List.mem_append_right _ (List.mem_append_right _ (List.mem_append_right _ (List.mem_append_right _ (List.mem_append_right _ (List.mem_append_right _ (List.mem_append_right _ (List.mem_append_right _ (List.mem_append_right _ (List.mem_append_right _ (List.mem_append_right _ (List.mem_append_right _ (List.mem_append_right _ (h))))))))))))))))))))))))))))))
theorem m_704 : Cond.fieldLink RX7 255 "TankChain$Sums" "out" "I" ∈ wsL_law := wr_r30 _ (List.mem_of_getElem? (i := 8) rfl)
theorem m_705 : Cond.fieldLink RX7 258 "TankChain$Sums" "seeped" "I" ∈ wsL_law := wr_r30 _ (List.mem_of_getElem? (i := 9) rfl)
theorem m_706 : Cond.fieldLink RX7 261 "TankChain$Sums" "kept" "I" ∈ wsL_law := wr_r30 _ (List.mem_of_getElem? (i := 10) rfl)
theorem m_707 : Cond.fieldLink RX7 264 "TankChain$Sums" "rained" "I" ∈ wsL_law := wr_r30 _ (List.mem_of_getElem? (i := 11) rfl)
theorem m_708 : Cond.methodLink RX7 251 yX7_allWater ∈ wsL_law := wr_r30 _ (List.mem_of_getElem? (i := 12) rfl)
theorem m_709 : Cond.instanceMethod yX7_allWater ∈ wsL_law := wr_r30 _ (List.mem_of_getElem? (i := 13) rfl)
theorem m_710 : Cond.selects RX7 yX7_allWater yX7_allWater ∈ wsL_law := wr_r30 _ (List.mem_of_getElem? (i := 14) rfl)
theorem m_711 : Cond.code yX7_allWater cX7_allWater 3 (some .int) ∈ wsL_law := wr_r30 _ (List.mem_of_getElem? (i := 15) rfl)
theorem fX0_0 : r_fld 0 0 RX0 TX0 6 (.array .int) := ⟨rfl, by decide, inlX0, rfl, rfl, tyX0_ok 0 (by decide), tyX0_ok, nmX0⟩
theorem fX0_1 : r_fld 0 1 RX0 TX0 6 (.int) := ⟨rfl, by decide, inlX0, rfl, rfl, tyX0_ok 1 (by decide), tyX0_ok, nmX0⟩
theorem fX0_2 : r_fld 0 2 RX0 TX0 6 (.int) := ⟨rfl, by decide, inlX0, rfl, rfl, tyX0_ok 2 (by decide), tyX0_ok, nmX0⟩
theorem fX0_3 : r_fld 0 3 RX0 TX0 6 (.int) := ⟨rfl, by decide, inlX0, rfl, rfl, tyX0_ok 3 (by decide), tyX0_ok, nmX0⟩
theorem fX0_4 : r_fld 0 4 RX0 TX0 6 (.boolean) := ⟨rfl, by decide, inlX0, rfl, rfl, tyX0_ok 4 (by decide), tyX0_ok, nmX0⟩
theorem fX0_5 : r_fld 0 5 RX0 TX0 6 (.int) := ⟨rfl, by decide, inlX0, rfl, rfl, tyX0_ok 5 (by decide), tyX0_ok, nmX0⟩
theorem fX1_0 : r_fld 1 0 RX1 TX1 12 (.int) := ⟨rfl, by decide, inlX1, rfl, rfl, tyX1_ok 0 (by decide), tyX1_ok, nmX1⟩
theorem fX1_1 : r_fld 1 1 RX1 TX1 12 (.int) := ⟨rfl, by decide, inlX1, rfl, rfl, tyX1_ok 1 (by decide), tyX1_ok, nmX1⟩
theorem fX1_2 : r_fld 1 2 RX1 TX1 12 (.int) := ⟨rfl, by decide, inlX1, rfl, rfl, tyX1_ok 2 (by decide), tyX1_ok, nmX1⟩
theorem fX1_3 : r_fld 1 3 RX1 TX1 12 (.int) := ⟨rfl, by decide, inlX1, rfl, rfl, tyX1_ok 3 (by decide), tyX1_ok, nmX1⟩
theorem fX1_4 : r_fld 1 4 RX1 TX1 12 (.int) := ⟨rfl, by decide, inlX1, rfl, rfl, tyX1_ok 4 (by decide), tyX1_ok, nmX1⟩
theorem fX1_5 : r_fld 1 5 RX1 TX1 12 (.boolean) := ⟨rfl, by decide, inlX1, rfl, rfl, tyX1_ok 5 (by decide), tyX1_ok, nmX1⟩
theorem fX1_6 : r_fld 1 6 RX1 TX1 12 (.object RX1) := ⟨rfl, by decide, inlX1, rfl, rfl, tyX1_ok 6 (by decide), tyX1_ok, nmX1⟩
theorem fX1_7 : r_fld 1 7 RX1 TX1 12 (.int) := ⟨rfl, by decide, inlX1, rfl, rfl, tyX1_ok 7 (by decide), tyX1_ok, nmX1⟩
theorem fX1_8 : r_fld 1 8 RX1 TX1 12 (.int) := ⟨rfl, by decide, inlX1, rfl, rfl, tyX1_ok 8 (by decide), tyX1_ok, nmX1⟩
theorem fX1_9 : r_fld 1 9 RX1 TX1 12 (.int) := ⟨rfl, by decide, inlX1, rfl, rfl, tyX1_ok 9 (by decide), tyX1_ok, nmX1⟩
theorem fX1_10 : r_fld 1 10 RX1 TX1 12 (.int) := ⟨rfl, by decide, inlX1, rfl, rfl, tyX1_ok 10 (by decide), tyX1_ok, nmX1⟩
theorem fX1_11 : r_fld 1 11 RX1 TX1 12 (.int) := ⟨rfl, by decide, inlX1, rfl, rfl, tyX1_ok 11 (by decide), tyX1_ok, nmX1⟩
theorem fX2_0 : r_fld 2 0 RX2 TX2 4 (.object RX5) := ⟨rfl, by decide, inlX2, rfl, rfl, tyX2_ok 0 (by decide), tyX2_ok, nmX2⟩
theorem fX2_1 : r_fld 2 1 RX2 TX2 4 (.object RX0) := ⟨rfl, by decide, inlX2, rfl, rfl, tyX2_ok 1 (by decide), tyX2_ok, nmX2⟩
theorem fX2_2 : r_fld 2 2 RX2 TX2 4 (.object RX4) := ⟨rfl, by decide, inlX2, rfl, rfl, tyX2_ok 2 (by decide), tyX2_ok, nmX2⟩
theorem fX2_3 : r_fld 2 3 RX2 TX2 4 (.int) := ⟨rfl, by decide, inlX2, rfl, rfl, tyX2_ok 3 (by decide), tyX2_ok, nmX2⟩
theorem fX3_0 : r_fld 3 0 RX3 TX3 5 (.int) := ⟨rfl, by decide, inlX3, rfl, rfl, tyX3_ok 0 (by decide), tyX3_ok, nmX3⟩
theorem fX3_1 : r_fld 3 1 RX3 TX3 5 (.int) := ⟨rfl, by decide, inlX3, rfl, rfl, tyX3_ok 1 (by decide), tyX3_ok, nmX3⟩
theorem fX3_2 : r_fld 3 2 RX3 TX3 5 (.boolean) := ⟨rfl, by decide, inlX3, rfl, rfl, tyX3_ok 2 (by decide), tyX3_ok, nmX3⟩
theorem fX3_3 : r_fld 3 3 RX3 TX3 5 (.int) := ⟨rfl, by decide, inlX3, rfl, rfl, tyX3_ok 3 (by decide), tyX3_ok, nmX3⟩
theorem fX3_4 : r_fld 3 4 RX3 TX3 5 (.int) := ⟨rfl, by decide, inlX3, rfl, rfl, tyX3_ok 4 (by decide), tyX3_ok, nmX3⟩
theorem fX4_0 : r_fld 4 0 RX4 TX4 4 (.int) := ⟨rfl, by decide, inlX4, rfl, rfl, tyX4_ok 0 (by decide), tyX4_ok, nmX4⟩
theorem fX4_1 : r_fld 4 1 RX4 TX4 4 (.int) := ⟨rfl, by decide, inlX4, rfl, rfl, tyX4_ok 1 (by decide), tyX4_ok, nmX4⟩
theorem fX4_2 : r_fld 4 2 RX4 TX4 4 (.int) := ⟨rfl, by decide, inlX4, rfl, rfl, tyX4_ok 2 (by decide), tyX4_ok, nmX4⟩
theorem fX4_3 : r_fld 4 3 RX4 TX4 4 (.int) := ⟨rfl, by decide, inlX4, rfl, rfl, tyX4_ok 3 (by decide), tyX4_ok, nmX4⟩
theorem fX5_0 : r_fld 5 0 RX5 TX5 10 (.int) := ⟨rfl, by decide, inlX5, rfl, rfl, tyX5_ok 0 (by decide), tyX5_ok, nmX5⟩
theorem fX5_1 : r_fld 5 1 RX5 TX5 10 (.object RX5) := ⟨rfl, by decide, inlX5, rfl, rfl, tyX5_ok 1 (by decide), tyX5_ok, nmX5⟩
theorem fX5_2 : r_fld 5 2 RX5 TX5 10 (.object RX3) := ⟨rfl, by decide, inlX5, rfl, rfl, tyX5_ok 2 (by decide), tyX5_ok, nmX5⟩
theorem fX5_3 : r_fld 5 3 RX5 TX5 10 (.object RX3) := ⟨rfl, by decide, inlX5, rfl, rfl, tyX5_ok 3 (by decide), tyX5_ok, nmX5⟩
theorem fX5_4 : r_fld 5 4 RX5 TX5 10 (.int) := ⟨rfl, by decide, inlX5, rfl, rfl, tyX5_ok 4 (by decide), tyX5_ok, nmX5⟩
theorem fX5_5 : r_fld 5 5 RX5 TX5 10 (.int) := ⟨rfl, by decide, inlX5, rfl, rfl, tyX5_ok 5 (by decide), tyX5_ok, nmX5⟩
theorem fX5_6 : r_fld 5 6 RX5 TX5 10 (.int) := ⟨rfl, by decide, inlX5, rfl, rfl, tyX5_ok 6 (by decide), tyX5_ok, nmX5⟩
theorem fX5_7 : r_fld 5 7 RX5 TX5 10 (.int) := ⟨rfl, by decide, inlX5, rfl, rfl, tyX5_ok 7 (by decide), tyX5_ok, nmX5⟩
theorem fX5_8 : r_fld 5 8 RX5 TX5 10 (.int) := ⟨rfl, by decide, inlX5, rfl, rfl, tyX5_ok 8 (by decide), tyX5_ok, nmX5⟩
theorem fX5_9 : r_fld 5 9 RX5 TX5 10 (.object RX1) := ⟨rfl, by decide, inlX5, rfl, rfl, tyX5_ok 9 (by decide), tyX5_ok, nmX5⟩
theorem fX6_0 : r_fld 6 0 RX6 TX6 6 (.array .byte) := ⟨rfl, by decide, inlX6, rfl, rfl, tyX6_ok 0 (by decide), tyX6_ok, nmX6⟩
theorem fX6_1 : r_fld 6 1 RX6 TX6 6 (.int) := ⟨rfl, by decide, inlX6, rfl, rfl, tyX6_ok 1 (by decide), tyX6_ok, nmX6⟩
theorem fX6_2 : r_fld 6 2 RX6 TX6 6 (.int) := ⟨rfl, by decide, inlX6, rfl, rfl, tyX6_ok 2 (by decide), tyX6_ok, nmX6⟩
theorem fX6_3 : r_fld 6 3 RX6 TX6 6 (.int) := ⟨rfl, by decide, inlX6, rfl, rfl, tyX6_ok 3 (by decide), tyX6_ok, nmX6⟩
theorem fX6_4 : r_fld 6 4 RX6 TX6 6 (.int) := ⟨rfl, by decide, inlX6, rfl, rfl, tyX6_ok 4 (by decide), tyX6_ok, nmX6⟩
theorem fX6_5 : r_fld 6 5 RX6 TX6 6 (.int) := ⟨rfl, by decide, inlX6, rfl, rfl, tyX6_ok 5 (by decide), tyX6_ok, nmX6⟩
theorem fX7_0 : r_fld 7 0 RX7 TX7 15 (.array (.object RX5)) := ⟨rfl, by decide, inlX7, rfl, rfl, tyX7_ok 0 (by decide), tyX7_ok, nmX7⟩
theorem fX7_1 : r_fld 7 1 RX7 TX7 15 (.array (.object RX1)) := ⟨rfl, by decide, inlX7, rfl, rfl, tyX7_ok 1 (by decide), tyX7_ok, nmX7⟩
theorem fX7_2 : r_fld 7 2 RX7 TX7 15 (.object RX6) := ⟨rfl, by decide, inlX7, rfl, rfl, tyX7_ok 2 (by decide), tyX7_ok, nmX7⟩
theorem fX7_3 : r_fld 7 3 RX7 TX7 15 (.object RX0) := ⟨rfl, by decide, inlX7, rfl, rfl, tyX7_ok 3 (by decide), tyX7_ok, nmX7⟩
theorem fX7_4 : r_fld 7 4 RX7 TX7 15 (.object RX0) := ⟨rfl, by decide, inlX7, rfl, rfl, tyX7_ok 4 (by decide), tyX7_ok, nmX7⟩
theorem fX7_5 : r_fld 7 5 RX7 TX7 15 (.object RX2) := ⟨rfl, by decide, inlX7, rfl, rfl, tyX7_ok 5 (by decide), tyX7_ok, nmX7⟩
theorem fX7_6 : r_fld 7 6 RX7 TX7 15 (.object RX4) := ⟨rfl, by decide, inlX7, rfl, rfl, tyX7_ok 6 (by decide), tyX7_ok, nmX7⟩
theorem fX7_7 : r_fld 7 7 RX7 TX7 15 (.int) := ⟨rfl, by decide, inlX7, rfl, rfl, tyX7_ok 7 (by decide), tyX7_ok, nmX7⟩
theorem fX7_8 : r_fld 7 8 RX7 TX7 15 (.int) := ⟨rfl, by decide, inlX7, rfl, rfl, tyX7_ok 8 (by decide), tyX7_ok, nmX7⟩
theorem fX7_9 : r_fld 7 9 RX7 TX7 15 (.int) := ⟨rfl, by decide, inlX7, rfl, rfl, tyX7_ok 9 (by decide), tyX7_ok, nmX7⟩
theorem fX7_10 : r_fld 7 10 RX7 TX7 15 (.int) := ⟨rfl, by decide, inlX7, rfl, rfl, tyX7_ok 10 (by decide), tyX7_ok, nmX7⟩
theorem fX7_11 : r_fld 7 11 RX7 TX7 15 (.int) := ⟨rfl, by decide, inlX7, rfl, rfl, tyX7_ok 11 (by decide), tyX7_ok, nmX7⟩
theorem fX7_12 : r_fld 7 12 RX7 TX7 15 (.int) := ⟨rfl, by decide, inlX7, rfl, rfl, tyX7_ok 12 (by decide), tyX7_ok, nmX7⟩
theorem fX7_13 : r_fld 7 13 RX7 TX7 15 (.int) := ⟨rfl, by decide, inlX7, rfl, rfl, tyX7_ok 13 (by decide), tyX7_ok, nmX7⟩
theorem fX7_14 : r_fld 7 14 RX7 TX7 15 (.int) := ⟨rfl, by decide, inlX7, rfl, rfl, tyX7_ok 14 (by decide), tyX7_ok, nmX7⟩
theorem fX8_0 : r_fld 8 0 RX8 TX8 47 (.int) := ⟨rfl, by decide, inlX8, rfl, rfl, tyX8_ok 0 (by decide), tyX8_ok, nmX8⟩
theorem fX8_1 : r_fld 8 1 RX8 TX8 47 (.int) := ⟨rfl, by decide, inlX8, rfl, rfl, tyX8_ok 1 (by decide), tyX8_ok, nmX8⟩
theorem fX8_2 : r_fld 8 2 RX8 TX8 47 (.int) := ⟨rfl, by decide, inlX8, rfl, rfl, tyX8_ok 2 (by decide), tyX8_ok, nmX8⟩
theorem fX8_3 : r_fld 8 3 RX8 TX8 47 (.int) := ⟨rfl, by decide, inlX8, rfl, rfl, tyX8_ok 3 (by decide), tyX8_ok, nmX8⟩
theorem fX8_4 : r_fld 8 4 RX8 TX8 47 (.array .int) := ⟨rfl, by decide, inlX8, rfl, rfl, tyX8_ok 4 (by decide), tyX8_ok, nmX8⟩
theorem fX8_5 : r_fld 8 5 RX8 TX8 47 (.array .int) := ⟨rfl, by decide, inlX8, rfl, rfl, tyX8_ok 5 (by decide), tyX8_ok, nmX8⟩
theorem fX8_6 : r_fld 8 6 RX8 TX8 47 (.array .int) := ⟨rfl, by decide, inlX8, rfl, rfl, tyX8_ok 6 (by decide), tyX8_ok, nmX8⟩
theorem fX8_7 : r_fld 8 7 RX8 TX8 47 (.array .int) := ⟨rfl, by decide, inlX8, rfl, rfl, tyX8_ok 7 (by decide), tyX8_ok, nmX8⟩
theorem fX8_8 : r_fld 8 8 RX8 TX8 47 (.array .int) := ⟨rfl, by decide, inlX8, rfl, rfl, tyX8_ok 8 (by decide), tyX8_ok, nmX8⟩
theorem fX8_9 : r_fld 8 9 RX8 TX8 47 (.array .int) := ⟨rfl, by decide, inlX8, rfl, rfl, tyX8_ok 9 (by decide), tyX8_ok, nmX8⟩
theorem fX8_10 : r_fld 8 10 RX8 TX8 47 (.array .int) := ⟨rfl, by decide, inlX8, rfl, rfl, tyX8_ok 10 (by decide), tyX8_ok, nmX8⟩
theorem fX8_11 : r_fld 8 11 RX8 TX8 47 (.array .int) := ⟨rfl, by decide, inlX8, rfl, rfl, tyX8_ok 11 (by decide), tyX8_ok, nmX8⟩
theorem fX8_12 : r_fld 8 12 RX8 TX8 47 (.array .int) := ⟨rfl, by decide, inlX8, rfl, rfl, tyX8_ok 12 (by decide), tyX8_ok, nmX8⟩
theorem fX8_13 : r_fld 8 13 RX8 TX8 47 (.array .boolean) := ⟨rfl, by decide, inlX8, rfl, rfl, tyX8_ok 13 (by decide), tyX8_ok, nmX8⟩
theorem fX8_14 : r_fld 8 14 RX8 TX8 47 (.array .int) := ⟨rfl, by decide, inlX8, rfl, rfl, tyX8_ok 14 (by decide), tyX8_ok, nmX8⟩
theorem fX8_15 : r_fld 8 15 RX8 TX8 47 (.array .int) := ⟨rfl, by decide, inlX8, rfl, rfl, tyX8_ok 15 (by decide), tyX8_ok, nmX8⟩
theorem fX8_16 : r_fld 8 16 RX8 TX8 47 (.array .int) := ⟨rfl, by decide, inlX8, rfl, rfl, tyX8_ok 16 (by decide), tyX8_ok, nmX8⟩
theorem fX8_17 : r_fld 8 17 RX8 TX8 47 (.array .int) := ⟨rfl, by decide, inlX8, rfl, rfl, tyX8_ok 17 (by decide), tyX8_ok, nmX8⟩
theorem fX8_18 : r_fld 8 18 RX8 TX8 47 (.array .int) := ⟨rfl, by decide, inlX8, rfl, rfl, tyX8_ok 18 (by decide), tyX8_ok, nmX8⟩
theorem fX8_19 : r_fld 8 19 RX8 TX8 47 (.array .int) := ⟨rfl, by decide, inlX8, rfl, rfl, tyX8_ok 19 (by decide), tyX8_ok, nmX8⟩
theorem fX8_20 : r_fld 8 20 RX8 TX8 47 (.array .int) := ⟨rfl, by decide, inlX8, rfl, rfl, tyX8_ok 20 (by decide), tyX8_ok, nmX8⟩
theorem fX8_21 : r_fld 8 21 RX8 TX8 47 (.array .boolean) := ⟨rfl, by decide, inlX8, rfl, rfl, tyX8_ok 21 (by decide), tyX8_ok, nmX8⟩
theorem fX8_22 : r_fld 8 22 RX8 TX8 47 (.array .int) := ⟨rfl, by decide, inlX8, rfl, rfl, tyX8_ok 22 (by decide), tyX8_ok, nmX8⟩
theorem fX8_23 : r_fld 8 23 RX8 TX8 47 (.int) := ⟨rfl, by decide, inlX8, rfl, rfl, tyX8_ok 23 (by decide), tyX8_ok, nmX8⟩
theorem fX8_24 : r_fld 8 24 RX8 TX8 47 (.int) := ⟨rfl, by decide, inlX8, rfl, rfl, tyX8_ok 24 (by decide), tyX8_ok, nmX8⟩
theorem fX8_25 : r_fld 8 25 RX8 TX8 47 (.int) := ⟨rfl, by decide, inlX8, rfl, rfl, tyX8_ok 25 (by decide), tyX8_ok, nmX8⟩
theorem fX8_26 : r_fld 8 26 RX8 TX8 47 (.int) := ⟨rfl, by decide, inlX8, rfl, rfl, tyX8_ok 26 (by decide), tyX8_ok, nmX8⟩
theorem fX8_27 : r_fld 8 27 RX8 TX8 47 (.int) := ⟨rfl, by decide, inlX8, rfl, rfl, tyX8_ok 27 (by decide), tyX8_ok, nmX8⟩
theorem fX8_28 : r_fld 8 28 RX8 TX8 47 (.int) := ⟨rfl, by decide, inlX8, rfl, rfl, tyX8_ok 28 (by decide), tyX8_ok, nmX8⟩
theorem fX8_29 : r_fld 8 29 RX8 TX8 47 (.int) := ⟨rfl, by decide, inlX8, rfl, rfl, tyX8_ok 29 (by decide), tyX8_ok, nmX8⟩
theorem fX8_30 : r_fld 8 30 RX8 TX8 47 (.int) := ⟨rfl, by decide, inlX8, rfl, rfl, tyX8_ok 30 (by decide), tyX8_ok, nmX8⟩
theorem fX8_31 : r_fld 8 31 RX8 TX8 47 (.array .byte) := ⟨rfl, by decide, inlX8, rfl, rfl, tyX8_ok 31 (by decide), tyX8_ok, nmX8⟩
theorem fX8_32 : r_fld 8 32 RX8 TX8 47 (.array .byte) := ⟨rfl, by decide, inlX8, rfl, rfl, tyX8_ok 32 (by decide), tyX8_ok, nmX8⟩
theorem fX8_33 : r_fld 8 33 RX8 TX8 47 (.int) := ⟨rfl, by decide, inlX8, rfl, rfl, tyX8_ok 33 (by decide), tyX8_ok, nmX8⟩
theorem fX8_34 : r_fld 8 34 RX8 TX8 47 (.int) := ⟨rfl, by decide, inlX8, rfl, rfl, tyX8_ok 34 (by decide), tyX8_ok, nmX8⟩
theorem fX8_35 : r_fld 8 35 RX8 TX8 47 (.int) := ⟨rfl, by decide, inlX8, rfl, rfl, tyX8_ok 35 (by decide), tyX8_ok, nmX8⟩
theorem fX8_36 : r_fld 8 36 RX8 TX8 47 (.int) := ⟨rfl, by decide, inlX8, rfl, rfl, tyX8_ok 36 (by decide), tyX8_ok, nmX8⟩
theorem fX8_37 : r_fld 8 37 RX8 TX8 47 (.array .int) := ⟨rfl, by decide, inlX8, rfl, rfl, tyX8_ok 37 (by decide), tyX8_ok, nmX8⟩
theorem fX8_38 : r_fld 8 38 RX8 TX8 47 (.boolean) := ⟨rfl, by decide, inlX8, rfl, rfl, tyX8_ok 38 (by decide), tyX8_ok, nmX8⟩
theorem fX8_39 : r_fld 8 39 RX8 TX8 47 (.int) := ⟨rfl, by decide, inlX8, rfl, rfl, tyX8_ok 39 (by decide), tyX8_ok, nmX8⟩
theorem fX8_40 : r_fld 8 40 RX8 TX8 47 (.int) := ⟨rfl, by decide, inlX8, rfl, rfl, tyX8_ok 40 (by decide), tyX8_ok, nmX8⟩
theorem fX8_41 : r_fld 8 41 RX8 TX8 47 (.array .int) := ⟨rfl, by decide, inlX8, rfl, rfl, tyX8_ok 41 (by decide), tyX8_ok, nmX8⟩
theorem fX8_42 : r_fld 8 42 RX8 TX8 47 (.array .int) := ⟨rfl, by decide, inlX8, rfl, rfl, tyX8_ok 42 (by decide), tyX8_ok, nmX8⟩
theorem fX8_43 : r_fld 8 43 RX8 TX8 47 (.array .boolean) := ⟨rfl, by decide, inlX8, rfl, rfl, tyX8_ok 43 (by decide), tyX8_ok, nmX8⟩
theorem fX8_44 : r_fld 8 44 RX8 TX8 47 (.array .int) := ⟨rfl, by decide, inlX8, rfl, rfl, tyX8_ok 44 (by decide), tyX8_ok, nmX8⟩
theorem fX8_45 : r_fld 8 45 RX8 TX8 47 (.array .int) := ⟨rfl, by decide, inlX8, rfl, rfl, tyX8_ok 45 (by decide), tyX8_ok, nmX8⟩
theorem fX8_46 : r_fld 8 46 RX8 TX8 47 (.array .boolean) := ⟨rfl, by decide, inlX8, rfl, rfl, tyX8_ok 46 (by decide), tyX8_ok, nmX8⟩
theorem hd_X0_init : (yX0_init).cls ≠ "java/lang/invoke/MethodHandle" ∧ (yX0_init).cls ≠ "java/lang/invoke/VarHandle" ∧ (parseMethodDescriptor (yX0_init).desc).map (fun d => d.parameters.length) = some 0 := by decide +kernel
theorem hd_X0_clear : (yX0_clear).cls ≠ "java/lang/invoke/MethodHandle" ∧ (yX0_clear).cls ≠ "java/lang/invoke/VarHandle" ∧ (parseMethodDescriptor (yX0_clear).desc).map (fun d => d.parameters.length) = some 0 := by decide +kernel
theorem hd_X0_addFirst : (yX0_addFirst).cls ≠ "java/lang/invoke/MethodHandle" ∧ (yX0_addFirst).cls ≠ "java/lang/invoke/VarHandle" ∧ (parseMethodDescriptor (yX0_addFirst).desc).map (fun d => d.parameters.length) = some 1 := by decide +kernel
theorem hd_X0_becomeAs : (yX0_becomeAs).cls ≠ "java/lang/invoke/MethodHandle" ∧ (yX0_becomeAs).cls ≠ "java/lang/invoke/VarHandle" ∧ (parseMethodDescriptor (yX0_becomeAs).desc).map (fun d => d.parameters.length) = some 1 := by decide +kernel
theorem hd_X0_rank : (yX0_rank).cls ≠ "java/lang/invoke/MethodHandle" ∧ (yX0_rank).cls ≠ "java/lang/invoke/VarHandle" ∧ (parseMethodDescriptor (yX0_rank).desc).map (fun d => d.parameters.length) = some 2 := by decide +kernel
theorem hd_X0_isAhead : (yX0_isAhead).cls ≠ "java/lang/invoke/MethodHandle" ∧ (yX0_isAhead).cls ≠ "java/lang/invoke/VarHandle" ∧ (parseMethodDescriptor (yX0_isAhead).desc).map (fun d => d.parameters.length) = some 2 := by decide +kernel
theorem hd_X1_init : (yX1_init).cls ≠ "java/lang/invoke/MethodHandle" ∧ (yX1_init).cls ≠ "java/lang/invoke/VarHandle" ∧ (parseMethodDescriptor (yX1_init).desc).map (fun d => d.parameters.length) = some 6 := by decide +kernel
theorem hd_X1_isFed : (yX1_isFed).cls ≠ "java/lang/invoke/MethodHandle" ∧ (yX1_isFed).cls ≠ "java/lang/invoke/VarHandle" ∧ (parseMethodDescriptor (yX1_isFed).desc).map (fun d => d.parameters.length) = some 0 := by decide +kernel
theorem hd_X1_keepShare : (yX1_keepShare).cls ≠ "java/lang/invoke/MethodHandle" ∧ (yX1_keepShare).cls ≠ "java/lang/invoke/VarHandle" ∧ (parseMethodDescriptor (yX1_keepShare).desc).map (fun d => d.parameters.length) = some 0 := by decide +kernel
theorem hd_X4_init : (yX4_init).cls ≠ "java/lang/invoke/MethodHandle" ∧ (yX4_init).cls ≠ "java/lang/invoke/VarHandle" ∧ (parseMethodDescriptor (yX4_init).desc).map (fun d => d.parameters.length) = some 0 := by decide +kernel
theorem hd_X2_init : (yX2_init).cls ≠ "java/lang/invoke/MethodHandle" ∧ (yX2_init).cls ≠ "java/lang/invoke/VarHandle" ∧ (parseMethodDescriptor (yX2_init).desc).map (fun d => d.parameters.length) = some 2 := by decide +kernel
theorem hd_X3_becomeAs : (yX3_becomeAs).cls ≠ "java/lang/invoke/MethodHandle" ∧ (yX3_becomeAs).cls ≠ "java/lang/invoke/VarHandle" ∧ (parseMethodDescriptor (yX3_becomeAs).desc).map (fun d => d.parameters.length) = some 1 := by decide +kernel
theorem hd_X2_startFromNow : (yX2_startFromNow).cls ≠ "java/lang/invoke/MethodHandle" ∧ (yX2_startFromNow).cls ≠ "java/lang/invoke/VarHandle" ∧ (parseMethodDescriptor (yX2_startFromNow).desc).map (fun d => d.parameters.length) = some 0 := by decide +kernel
theorem hd_X4_clear : (yX4_clear).cls ≠ "java/lang/invoke/MethodHandle" ∧ (yX4_clear).cls ≠ "java/lang/invoke/VarHandle" ∧ (parseMethodDescriptor (yX4_clear).desc).map (fun d => d.parameters.length) = some 0 := by decide +kernel
theorem hd_X5_isBadYearWith : (yX5_isBadYearWith).cls ≠ "java/lang/invoke/MethodHandle" ∧ (yX5_isBadYearWith).cls ≠ "java/lang/invoke/VarHandle" ∧ (parseMethodDescriptor (yX5_isBadYearWith).desc).map (fun d => d.parameters.length) = some 1 := by decide +kernel
theorem hd_X2_areasWithin : (yX2_areasWithin).cls ≠ "java/lang/invoke/MethodHandle" ∧ (yX2_areasWithin).cls ≠ "java/lang/invoke/VarHandle" ∧ (parseMethodDescriptor (yX2_areasWithin).desc).map (fun d => d.parameters.length) = some 2 := by decide +kernel
theorem hd_X2_giveOneMore : (yX2_giveOneMore).cls ≠ "java/lang/invoke/MethodHandle" ∧ (yX2_giveOneMore).cls ≠ "java/lang/invoke/VarHandle" ∧ (parseMethodDescriptor (yX2_giveOneMore).desc).map (fun d => d.parameters.length) = some 1 := by decide +kernel
theorem hd_X2_shareFairly : (yX2_shareFairly).cls ≠ "java/lang/invoke/MethodHandle" ∧ (yX2_shareFairly).cls ≠ "java/lang/invoke/VarHandle" ∧ (parseMethodDescriptor (yX2_shareFairly).desc).map (fun d => d.parameters.length) = some 4 := by decide +kernel
theorem hd_X2_shareInOrder : (yX2_shareInOrder).cls ≠ "java/lang/invoke/MethodHandle" ∧ (yX2_shareInOrder).cls ≠ "java/lang/invoke/VarHandle" ∧ (parseMethodDescriptor (yX2_shareInOrder).desc).map (fun d => d.parameters.length) = some 3 := by decide +kernel
theorem hd_X2_takenByFields : (yX2_takenByFields).cls ≠ "java/lang/invoke/MethodHandle" ∧ (yX2_takenByFields).cls ≠ "java/lang/invoke/VarHandle" ∧ (parseMethodDescriptor (yX2_takenByFields).desc).map (fun d => d.parameters.length) = some 2 := by decide +kernel
theorem hd_X5_roomIf : (yX5_roomIf).cls ≠ "java/lang/invoke/MethodHandle" ∧ (yX5_roomIf).cls ≠ "java/lang/invoke/VarHandle" ∧ (parseMethodDescriptor (yX5_roomIf).desc).map (fun d => d.parameters.length) = some 1 := by decide +kernel
theorem hd_X2_sentDown : (yX2_sentDown).cls ≠ "java/lang/invoke/MethodHandle" ∧ (yX2_sentDown).cls ≠ "java/lang/invoke/VarHandle" ∧ (parseMethodDescriptor (yX2_sentDown).desc).map (fun d => d.parameters.length) = some 3 := by decide +kernel
theorem hd_X2_passDay : (yX2_passDay).cls ≠ "java/lang/invoke/MethodHandle" ∧ (yX2_passDay).cls ≠ "java/lang/invoke/VarHandle" ∧ (parseMethodDescriptor (yX2_passDay).desc).map (fun d => d.parameters.length) = some 1 := by decide +kernel
theorem hd_X3_init : (yX3_init).cls ≠ "java/lang/invoke/MethodHandle" ∧ (yX3_init).cls ≠ "java/lang/invoke/VarHandle" ∧ (parseMethodDescriptor (yX3_init).desc).map (fun d => d.parameters.length) = some 0 := by decide +kernel
theorem hd_X4_addAll : (yX4_addAll).cls ≠ "java/lang/invoke/MethodHandle" ∧ (yX4_addAll).cls ≠ "java/lang/invoke/VarHandle" ∧ (parseMethodDescriptor (yX4_addAll).desc).map (fun d => d.parameters.length) = some 1 := by decide +kernel
theorem hd_X5_init : (yX5_init).cls ≠ "java/lang/invoke/MethodHandle" ∧ (yX5_init).cls ≠ "java/lang/invoke/VarHandle" ∧ (parseMethodDescriptor (yX5_init).desc).map (fun d => d.parameters.length) = some 2 := by decide +kernel
theorem hd_X5_putInOrder : (yX5_putInOrder).cls ≠ "java/lang/invoke/MethodHandle" ∧ (yX5_putInOrder).cls ≠ "java/lang/invoke/VarHandle" ∧ (parseMethodDescriptor (yX5_putInOrder).desc).map (fun d => d.parameters.length) = some 2 := by decide +kernel
theorem hd_X6_init : (yX6_init).cls ≠ "java/lang/invoke/MethodHandle" ∧ (yX6_init).cls ≠ "java/lang/invoke/VarHandle" ∧ (parseMethodDescriptor (yX6_init).desc).map (fun d => d.parameters.length) = some 0 := by decide +kernel
theorem hd_X6_putByte : (yX6_putByte).cls ≠ "java/lang/invoke/MethodHandle" ∧ (yX6_putByte).cls ≠ "java/lang/invoke/VarHandle" ∧ (parseMethodDescriptor (yX6_putByte).desc).map (fun d => d.parameters.length) = some 1 := by decide +kernel
theorem hd_X6_putFour : (yX6_putFour).cls ≠ "java/lang/invoke/MethodHandle" ∧ (yX6_putFour).cls ≠ "java/lang/invoke/VarHandle" ∧ (parseMethodDescriptor (yX6_putFour).desc).map (fun d => d.parameters.length) = some 1 := by decide +kernel
theorem hd_X6_byteAt : (yX6_byteAt).cls ≠ "java/lang/invoke/MethodHandle" ∧ (yX6_byteAt).cls ≠ "java/lang/invoke/VarHandle" ∧ (parseMethodDescriptor (yX6_byteAt).desc).map (fun d => d.parameters.length) = some 1 := by decide +kernel
theorem hd_X6_isBlank : (yX6_isBlank).cls ≠ "java/lang/invoke/MethodHandle" ∧ (yX6_isBlank).cls ≠ "java/lang/invoke/VarHandle" ∧ (parseMethodDescriptor (yX6_isBlank).desc).map (fun d => d.parameters.length) = some 1 := by decide +kernel
theorem hd_X6_isLetter : (yX6_isLetter).cls ≠ "java/lang/invoke/MethodHandle" ∧ (yX6_isLetter).cls ≠ "java/lang/invoke/VarHandle" ∧ (parseMethodDescriptor (yX6_isLetter).desc).map (fun d => d.parameters.length) = some 1 := by decide +kernel
theorem hd_X6_isDigit : (yX6_isDigit).cls ≠ "java/lang/invoke/MethodHandle" ∧ (yX6_isDigit).cls ≠ "java/lang/invoke/VarHandle" ∧ (parseMethodDescriptor (yX6_isDigit).desc).map (fun d => d.parameters.length) = some 1 := by decide +kernel
theorem hd_X6_nextToken : (yX6_nextToken).cls ≠ "java/lang/invoke/MethodHandle" ∧ (yX6_nextToken).cls ≠ "java/lang/invoke/VarHandle" ∧ (parseMethodDescriptor (yX6_nextToken).desc).map (fun d => d.parameters.length) = some 0 := by decide +kernel
theorem hd_X6_isWord : (yX6_isWord).cls ≠ "java/lang/invoke/MethodHandle" ∧ (yX6_isWord).cls ≠ "java/lang/invoke/VarHandle" ∧ (parseMethodDescriptor (yX6_isWord).desc).map (fun d => d.parameters.length) = some 1 := by decide +kernel
theorem hd_X6_readFirst : (yX6_readFirst).cls ≠ "java/lang/invoke/MethodHandle" ∧ (yX6_readFirst).cls ≠ "java/lang/invoke/VarHandle" ∧ (parseMethodDescriptor (yX6_readFirst).desc).map (fun d => d.parameters.length) = some 1 := by decide +kernel
theorem hd_X6_numberHere : (yX6_numberHere).cls ≠ "java/lang/invoke/MethodHandle" ∧ (yX6_numberHere).cls ≠ "java/lang/invoke/VarHandle" ∧ (parseMethodDescriptor (yX6_numberHere).desc).map (fun d => d.parameters.length) = some 0 := by decide +kernel
theorem hd_X6_readStatement : (yX6_readStatement).cls ≠ "java/lang/invoke/MethodHandle" ∧ (yX6_readStatement).cls ≠ "java/lang/invoke/VarHandle" ∧ (parseMethodDescriptor (yX6_readStatement).desc).map (fun d => d.parameters.length) = some 1 := by decide +kernel
theorem hd_X6_faultReading : (yX6_faultReading).cls ≠ "java/lang/invoke/MethodHandle" ∧ (yX6_faultReading).cls ≠ "java/lang/invoke/VarHandle" ∧ (parseMethodDescriptor (yX6_faultReading).desc).map (fun d => d.parameters.length) = some 2 := by decide +kernel
theorem hd_X7_tankAt : (yX7_tankAt).cls ≠ "java/lang/invoke/MethodHandle" ∧ (yX7_tankAt).cls ≠ "java/lang/invoke/VarHandle" ∧ (parseMethodDescriptor (yX7_tankAt).desc).map (fun d => d.parameters.length) = some 1 := by decide +kernel
theorem hd_X7_isWithin : (yX7_isWithin).cls ≠ "java/lang/invoke/MethodHandle" ∧ (yX7_isWithin).cls ≠ "java/lang/invoke/VarHandle" ∧ (parseMethodDescriptor (yX7_isWithin).desc).map (fun d => d.parameters.length) = some 3 := by decide +kernel
theorem hd_X7_fieldAt : (yX7_fieldAt).cls ≠ "java/lang/invoke/MethodHandle" ∧ (yX7_fieldAt).cls ≠ "java/lang/invoke/VarHandle" ∧ (parseMethodDescriptor (yX7_fieldAt).desc).map (fun d => d.parameters.length) = some 1 := by decide +kernel
theorem hd_X7_orderAnew : (yX7_orderAnew).cls ≠ "java/lang/invoke/MethodHandle" ∧ (yX7_orderAnew).cls ≠ "java/lang/invoke/VarHandle" ∧ (parseMethodDescriptor (yX7_orderAnew).desc).map (fun d => d.parameters.length) = some 0 := by decide +kernel
theorem hd_X7_addSilt : (yX7_addSilt).cls ≠ "java/lang/invoke/MethodHandle" ∧ (yX7_addSilt).cls ≠ "java/lang/invoke/VarHandle" ∧ (parseMethodDescriptor (yX7_addSilt).desc).map (fun d => d.parameters.length) = some 0 := by decide +kernel
theorem hd_X7_keepTanks : (yX7_keepTanks).cls ≠ "java/lang/invoke/MethodHandle" ∧ (yX7_keepTanks).cls ≠ "java/lang/invoke/VarHandle" ∧ (parseMethodDescriptor (yX7_keepTanks).desc).map (fun d => d.parameters.length) = some 0 := by decide +kernel
theorem hd_X7_keepFields : (yX7_keepFields).cls ≠ "java/lang/invoke/MethodHandle" ∧ (yX7_keepFields).cls ≠ "java/lang/invoke/VarHandle" ∧ (parseMethodDescriptor (yX7_keepFields).desc).map (fun d => d.parameters.length) = some 0 := by decide +kernel
theorem hd_X7_asNumber : (yX7_asNumber).cls ≠ "java/lang/invoke/MethodHandle" ∧ (yX7_asNumber).cls ≠ "java/lang/invoke/VarHandle" ∧ (parseMethodDescriptor (yX7_asNumber).desc).map (fun d => d.parameters.length) = some 1 := by decide +kernel
theorem hd_X7_mayTry : (yX7_mayTry).cls ≠ "java/lang/invoke/MethodHandle" ∧ (yX7_mayTry).cls ≠ "java/lang/invoke/VarHandle" ∧ (parseMethodDescriptor (yX7_mayTry).desc).map (fun d => d.parameters.length) = some 2 := by decide +kernel
theorem hd_X7_waterTried : (yX7_waterTried).cls ≠ "java/lang/invoke/MethodHandle" ∧ (yX7_waterTried).cls ≠ "java/lang/invoke/VarHandle" ∧ (parseMethodDescriptor (yX7_waterTried).desc).map (fun d => d.parameters.length) = some 4 := by decide +kernel
theorem hd_X7_openingIn : (yX7_openingIn).cls ≠ "java/lang/invoke/MethodHandle" ∧ (yX7_openingIn).cls ≠ "java/lang/invoke/VarHandle" ∧ (parseMethodDescriptor (yX7_openingIn).desc).map (fun d => d.parameters.length) = some 2 := by decide +kernel
theorem hd_X7_areasFedBy : (yX7_areasFedBy).cls ≠ "java/lang/invoke/MethodHandle" ∧ (yX7_areasFedBy).cls ≠ "java/lang/invoke/VarHandle" ∧ (parseMethodDescriptor (yX7_areasFedBy).desc).map (fun d => d.parameters.length) = some 5 := by decide +kernel
theorem hd_X7_allWater : (yX7_allWater).cls ≠ "java/lang/invoke/MethodHandle" ∧ (yX7_allWater).cls ≠ "java/lang/invoke/VarHandle" ∧ (parseMethodDescriptor (yX7_allWater).desc).map (fun d => d.parameters.length) = some 0 := by decide +kernel
theorem hd_X8_isIn : (yX8_isIn).cls ≠ "java/lang/invoke/MethodHandle" ∧ (yX8_isIn).cls ≠ "java/lang/invoke/VarHandle" ∧ (parseMethodDescriptor (yX8_isIn).desc).map (fun d => d.parameters.length) = some 3 := by decide +kernel
theorem hd_X8_one : (yX8_one).cls ≠ "java/lang/invoke/MethodHandle" ∧ (yX8_one).cls ≠ "java/lang/invoke/VarHandle" ∧ (parseMethodDescriptor (yX8_one).desc).map (fun d => d.parameters.length) = some 1 := by decide +kernel
theorem hd_X8_isTank : (yX8_isTank).cls ≠ "java/lang/invoke/MethodHandle" ∧ (yX8_isTank).cls ≠ "java/lang/invoke/VarHandle" ∧ (parseMethodDescriptor (yX8_isTank).desc).map (fun d => d.parameters.length) = some 1 := by decide +kernel
theorem hd_X8_room : (yX8_room).cls ≠ "java/lang/invoke/MethodHandle" ∧ (yX8_room).cls ≠ "java/lang/invoke/VarHandle" ∧ (parseMethodDescriptor (yX8_room).desc).map (fun d => d.parameters.length) = some 2 := by decide +kernel
theorem hd_X8_custom : (yX8_custom).cls ≠ "java/lang/invoke/MethodHandle" ∧ (yX8_custom).cls ≠ "java/lang/invoke/VarHandle" ∧ (parseMethodDescriptor (yX8_custom).desc).map (fun d => d.parameters.length) = some 2 := by decide +kernel
theorem hd_X8_four : (yX8_four).cls ≠ "java/lang/invoke/MethodHandle" ∧ (yX8_four).cls ≠ "java/lang/invoke/VarHandle" ∧ (parseMethodDescriptor (yX8_four).desc).map (fun d => d.parameters.length) = some 1 := by decide +kernel
theorem hd_X8_blanks : (yX8_blanks).cls ≠ "java/lang/invoke/MethodHandle" ∧ (yX8_blanks).cls ≠ "java/lang/invoke/VarHandle" ∧ (parseMethodDescriptor (yX8_blanks).desc).map (fun d => d.parameters.length) = some 0 := by decide +kernel
theorem hd_X8_word : (yX8_word).cls ≠ "java/lang/invoke/MethodHandle" ∧ (yX8_word).cls ≠ "java/lang/invoke/VarHandle" ∧ (parseMethodDescriptor (yX8_word).desc).map (fun d => d.parameters.length) = some 0 := by decide +kernel
theorem hd_X8_takes : (yX8_takes).cls ≠ "java/lang/invoke/MethodHandle" ∧ (yX8_takes).cls ≠ "java/lang/invoke/VarHandle" ∧ (parseMethodDescriptor (yX8_takes).desc).map (fun d => d.parameters.length) = some 1 := by decide +kernel
theorem hd_X8_takesNumber : (yX8_takesNumber).cls ≠ "java/lang/invoke/MethodHandle" ∧ (yX8_takesNumber).cls ≠ "java/lang/invoke/VarHandle" ∧ (parseMethodDescriptor (yX8_takesNumber).desc).map (fun d => d.parameters.length) = some 0 := by decide +kernel
theorem hd_X8_statement : (yX8_statement).cls ≠ "java/lang/invoke/MethodHandle" ∧ (yX8_statement).cls ≠ "java/lang/invoke/VarHandle" ∧ (parseMethodDescriptor (yX8_statement).desc).map (fun d => d.parameters.length) = some 0 := by decide +kernel
theorem hd_X8_isAhead : (yX8_isAhead).cls ≠ "java/lang/invoke/MethodHandle" ∧ (yX8_isAhead).cls ≠ "java/lang/invoke/VarHandle" ∧ (parseMethodDescriptor (yX8_isAhead).desc).map (fun d => d.parameters.length) = some 2 := by decide +kernel
theorem hd_X8_ordered : (yX8_ordered).cls ≠ "java/lang/invoke/MethodHandle" ∧ (yX8_ordered).cls ≠ "java/lang/invoke/VarHandle" ∧ (parseMethodDescriptor (yX8_ordered).desc).map (fun d => d.parameters.length) = some 1 := by decide +kernel
theorem hd_X8_isBad : (yX8_isBad).cls ≠ "java/lang/invoke/MethodHandle" ∧ (yX8_isBad).cls ≠ "java/lang/invoke/VarHandle" ∧ (parseMethodDescriptor (yX8_isBad).desc).map (fun d => d.parameters.length) = some 2 := by decide +kernel
theorem hd_X8_gives : (yX8_gives).cls ≠ "java/lang/invoke/MethodHandle" ∧ (yX8_gives).cls ≠ "java/lang/invoke/VarHandle" ∧ (parseMethodDescriptor (yX8_gives).desc).map (fun d => d.parameters.length) = some 3 := by decide +kernel
theorem hd_X8_flows : (yX8_flows).cls ≠ "java/lang/invoke/MethodHandle" ∧ (yX8_flows).cls ≠ "java/lang/invoke/VarHandle" ∧ (parseMethodDescriptor (yX8_flows).desc).map (fun d => d.parameters.length) = some 5 := by decide +kernel
theorem hd_X8_tries : (yX8_tries).cls ≠ "java/lang/invoke/MethodHandle" ∧ (yX8_tries).cls ≠ "java/lang/invoke/VarHandle" ∧ (parseMethodDescriptor (yX8_tries).desc).map (fun d => d.parameters.length) = some 2 := by decide +kernel
theorem hd_X8_openings : (yX8_openings).cls ≠ "java/lang/invoke/MethodHandle" ∧ (yX8_openings).cls ≠ "java/lang/invoke/VarHandle" ∧ (parseMethodDescriptor (yX8_openings).desc).map (fun d => d.parameters.length) = some 0 := by decide +kernel
theorem hd_X8_isTrial : (yX8_isTrial).cls ≠ "java/lang/invoke/MethodHandle" ∧ (yX8_isTrial).cls ≠ "java/lang/invoke/VarHandle" ∧ (parseMethodDescriptor (yX8_isTrial).desc).map (fun d => d.parameters.length) = some 2 := by decide +kernel
end
section
theorem zz_last : True := trivial
end

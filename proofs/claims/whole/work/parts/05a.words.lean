/-! written by wip/whole/gen.py: words by their places, fields, small functions -/
def FU : Nat := 1000
theorem wr_in : ∀ w ∈ (wsL_law_r1 ++ (wsL_law_r2 ++ (wsL_law_r3 ++ (wsL_law_r4 ++ (wsL_law_r5 ++ (wsL_law_r6 ++ (wsL_law_r7 ++ (wsL_law_r8 ++ (wsL_law_r9 ++ (wsL_law_r10 ++ (wsL_law_r11 ++ (wsL_law_r12 ++ (wsL_law_r13 ++ (wsL_law_r14 ++ (wsL_law_r15 ++ (wsL_law_r16 ++ (wsL_law_r17 ++ (wsL_law_r18 ++ (wsL_law_r19 ++ (wsL_law_r20 ++ (wsL_law_r21 ++ (wsL_law_r22 ++ (wsL_law_r23 ++ (wsL_law_r24 ++ (wsL_law_r25 ++ (wsL_law_r26 ++ (wsL_law_r27 ++ (wsL_law_r28 ++ (wsL_law_r29 ++ wsL_law_r30))))))))))))))))))))))))))))), w ∈ wsL_law := fun _ h => List.mem_append_left _ (List.mem_append_left _ (List.mem_append_left _ (List.mem_append_left _ (List.mem_append_left _ (List.mem_append_left _ (List.mem_append_left _ (List.mem_append_left _ (List.mem_append_left _ (List.mem_append_left _ (h))))))))))
theorem wr_r1 : ∀ w ∈ wsL_law_r1, w ∈ wsL_law := fun w h => wr_in w (List.mem_append_left _ h)
theorem m_0 : Cond.classLink RL 7 RX7 ∈ wsL_law := wr_r1 _ (List.mem_of_getElem? (i := 0) rfl)
theorem m_1 : Cond.instantiable RX7 15 ∈ wsL_law := wr_r1 _ (List.mem_of_getElem? (i := 1) rfl)
theorem m_2 : Cond.initialized RX7 ∈ wsL_law := wr_r1 _ (List.mem_of_getElem? (i := 2) rfl)
theorem m_3 : Cond.classLink RL 18 RX8 ∈ wsL_law := wr_r1 _ (List.mem_of_getElem? (i := 3) rfl)
theorem m_4 : Cond.instantiable RX8 47 ∈ wsL_law := wr_r1 _ (List.mem_of_getElem? (i := 4) rfl)
theorem m_5 : Cond.initialized RX8 ∈ wsL_law := wr_r1 _ (List.mem_of_getElem? (i := 5) rfl)
theorem m_6 : Cond.methodLink RL 9 yL_cell ∈ wsL_law := wr_r1 _ (List.mem_of_getElem? (i := 6) rfl)
theorem m_7 : Cond.static yL_cell ∈ wsL_law := wr_r1 _ (List.mem_of_getElem? (i := 7) rfl)
theorem m_8 : Cond.initialized RL ∈ wsL_law := wr_r1 _ (List.mem_of_getElem? (i := 8) rfl)
theorem m_9 : Cond.code yL_cell cL_cell 2 (some .int) ∈ wsL_law := wr_r1 _ (List.mem_of_getElem? (i := 9) rfl)
theorem m_10 : Cond.methodLink RL 15 yX7_init ∈ wsL_law := wr_r1 _ (List.mem_of_getElem? (i := 10) rfl)
theorem m_11 : Cond.instanceMethod yX7_init ∈ wsL_law := wr_r1 _ (List.mem_of_getElem? (i := 11) rfl)
theorem m_12 : Cond.code yX7_init cX7_init 5 none ∈ wsL_law := wr_r1 _ (List.mem_of_getElem? (i := 12) rfl)
theorem m_13 : Cond.methodLink RX7 1 objectInit ∈ wsL_law := wr_r1 _ (List.mem_of_getElem? (i := 13) rfl)
theorem m_14 : Cond.instanceMethod objectInit ∈ wsL_law := wr_r1 _ (List.mem_of_getElem? (i := 14) rfl)
theorem m_15 : Cond.code objectInit ⟨#[0xb1]⟩ 1 none ∈ wsL_law := wr_r1 _ (List.mem_of_getElem? (i := 15) rfl)
theorem m_16 : Cond.classLink RX7 9 RX1 ∈ wsL_law := wr_r1 _ (List.mem_of_getElem? (i := 16) rfl)
theorem m_17 : Cond.fieldLink RX7 11 "TankChain" "fields" "[LTankChain$Field;" ∈ wsL_law := wr_r1 _ (List.mem_of_getElem? (i := 17) rfl)
theorem m_18 : Cond.classLink RX7 15 RX6 ∈ wsL_law := wr_r1 _ (List.mem_of_getElem? (i := 18) rfl)
theorem m_19 : Cond.instantiable RX6 6 ∈ wsL_law := wr_r1 _ (List.mem_of_getElem? (i := 19) rfl)
theorem m_20 : Cond.initialized RX6 ∈ wsL_law := wr_r1 _ (List.mem_of_getElem? (i := 20) rfl)
theorem m_21 : Cond.fieldLink RX7 18 "TankChain" "tape" "LTankChain$Tape;" ∈ wsL_law := wr_r1 _ (List.mem_of_getElem? (i := 21) rfl)
theorem m_22 : Cond.classLink RX7 22 RX0 ∈ wsL_law := wr_r1 _ (List.mem_of_getElem? (i := 22) rfl)
theorem m_23 : Cond.instantiable RX0 6 ∈ wsL_law := wr_r1 _ (List.mem_of_getElem? (i := 23) rfl)
theorem wr_r2 : ∀ w ∈ wsL_law_r2, w ∈ wsL_law := fun w h => wr_in w (List.mem_append_right _ (List.mem_append_left _ h))
theorem m_24 : Cond.initialized RX0 ∈ wsL_law := wr_r2 _ (List.mem_of_getElem? (i := 0) rfl)
theorem m_25 : Cond.fieldLink RX7 25 "TankChain" "inForce" "LTankChain$Custom;" ∈ wsL_law := wr_r2 _ (List.mem_of_getElem? (i := 1) rfl)
theorem m_26 : Cond.fieldLink RX7 29 "TankChain" "draft" "LTankChain$Custom;" ∈ wsL_law := wr_r2 _ (List.mem_of_getElem? (i := 2) rfl)
theorem m_27 : Cond.classLink RX7 32 RX4 ∈ wsL_law := wr_r2 _ (List.mem_of_getElem? (i := 3) rfl)
theorem m_28 : Cond.instantiable RX4 4 ∈ wsL_law := wr_r2 _ (List.mem_of_getElem? (i := 4) rfl)
theorem m_29 : Cond.initialized RX4 ∈ wsL_law := wr_r2 _ (List.mem_of_getElem? (i := 5) rfl)
theorem m_30 : Cond.fieldLink RX7 35 "TankChain" "ever" "LTankChain$Sums;" ∈ wsL_law := wr_r2 _ (List.mem_of_getElem? (i := 6) rfl)
theorem m_31 : Cond.fieldLink RX7 39 "TankChain" "fieldsThere" "I" ∈ wsL_law := wr_r2 _ (List.mem_of_getElem? (i := 7) rfl)
theorem m_32 : Cond.fieldLink RX7 43 "TankChain" "daysGone" "I" ∈ wsL_law := wr_r2 _ (List.mem_of_getElem? (i := 8) rfl)
theorem m_33 : Cond.fieldLink RX7 46 "TankChain" "lastRain" "I" ∈ wsL_law := wr_r2 _ (List.mem_of_getElem? (i := 9) rfl)
theorem m_34 : Cond.fieldLink RX7 49 "TankChain" "waterTold" "I" ∈ wsL_law := wr_r2 _ (List.mem_of_getElem? (i := 10) rfl)
theorem m_35 : Cond.fieldLink RX7 52 "TankChain" "faultPlace" "I" ∈ wsL_law := wr_r2 _ (List.mem_of_getElem? (i := 11) rfl)
theorem m_36 : Cond.fieldLink RX7 55 "TankChain" "breachDay" "I" ∈ wsL_law := wr_r2 _ (List.mem_of_getElem? (i := 12) rfl)
theorem m_37 : Cond.fieldLink RX7 58 "TankChain" "breachFirst" "I" ∈ wsL_law := wr_r2 _ (List.mem_of_getElem? (i := 13) rfl)
theorem m_38 : Cond.fieldLink RX7 61 "TankChain" "breachTanks" "I" ∈ wsL_law := wr_r2 _ (List.mem_of_getElem? (i := 14) rfl)
theorem m_39 : Cond.methodLink RX7 64 Lib.Math.min.name ∈ wsL_law := wr_r2 _ (List.mem_of_getElem? (i := 15) rfl)
theorem m_40 : Cond.static Lib.Math.min.name ∈ wsL_law := wr_r2 _ (List.mem_of_getElem? (i := 16) rfl)
theorem m_41 : Cond.initialized "java/lang/Math" ∈ wsL_law := wr_r2 _ (List.mem_of_getElem? (i := 17) rfl)
theorem m_42 : Cond.code Lib.Math.min.name Lib.Math.min.code 2 (some .int) ∈ wsL_law := wr_r2 _ (List.mem_of_getElem? (i := 18) rfl)
theorem m_43 : Cond.methodLink RX7 70 Lib.Math.max.name ∈ wsL_law := wr_r2 _ (List.mem_of_getElem? (i := 19) rfl)
theorem m_44 : Cond.static Lib.Math.max.name ∈ wsL_law := wr_r2 _ (List.mem_of_getElem? (i := 20) rfl)
theorem m_45 : Cond.code Lib.Math.max.name Lib.Math.max.code 2 (some .int) ∈ wsL_law := wr_r2 _ (List.mem_of_getElem? (i := 21) rfl)
theorem m_46 : Cond.classLink RX7 73 RX5 ∈ wsL_law := wr_r2 _ (List.mem_of_getElem? (i := 22) rfl)
theorem m_47 : Cond.fieldLink RX7 75 "TankChain" "tanks" "[LTankChain$Tank;" ∈ wsL_law := wr_r2 _ (List.mem_of_getElem? (i := 23) rfl)
theorem wr_r3 : ∀ w ∈ wsL_law_r3, w ∈ wsL_law := fun w h => wr_in w (List.mem_append_right _ (List.mem_append_right _ (List.mem_append_left _ h)))
theorem m_48 : Cond.instantiable RX5 10 ∈ wsL_law := wr_r3 _ (List.mem_of_getElem? (i := 0) rfl)
theorem m_49 : Cond.initialized RX5 ∈ wsL_law := wr_r3 _ (List.mem_of_getElem? (i := 1) rfl)
theorem m_50 : Cond.classLink RX7 82 RX2 ∈ wsL_law := wr_r3 _ (List.mem_of_getElem? (i := 2) rfl)
theorem m_51 : Cond.instantiable RX2 4 ∈ wsL_law := wr_r3 _ (List.mem_of_getElem? (i := 3) rfl)
theorem m_52 : Cond.initialized RX2 ∈ wsL_law := wr_r3 _ (List.mem_of_getElem? (i := 4) rfl)
theorem m_53 : Cond.fieldLink RX7 87 "TankChain" "flow" "LTankChain$Flow;" ∈ wsL_law := wr_r3 _ (List.mem_of_getElem? (i := 5) rfl)
theorem m_54 : Cond.instanceMethod yX6_init ∈ wsL_law := wr_r3 _ (List.mem_of_getElem? (i := 6) rfl)
theorem m_55 : Cond.code yX6_init cX6_init 1 none ∈ wsL_law := wr_r3 _ (List.mem_of_getElem? (i := 7) rfl)
theorem m_56 : Cond.methodLink RX6 3 objectInit ∈ wsL_law := wr_r3 _ (List.mem_of_getElem? (i := 8) rfl)
theorem m_57 : Cond.arrayClass .byte ∈ wsL_law := wr_r3 _ (List.mem_of_getElem? (i := 9) rfl)
theorem m_58 : Cond.fieldLink RX6 9 "TankChain$Tape" "bytes" "[B" ∈ wsL_law := wr_r3 _ (List.mem_of_getElem? (i := 10) rfl)
theorem m_59 : Cond.fieldLink RX6 15 "TankChain$Tape" "held" "I" ∈ wsL_law := wr_r3 _ (List.mem_of_getElem? (i := 11) rfl)
theorem m_60 : Cond.fieldLink RX6 19 "TankChain$Tape" "length" "I" ∈ wsL_law := wr_r3 _ (List.mem_of_getElem? (i := 12) rfl)
theorem m_61 : Cond.fieldLink RX6 22 "TankChain$Tape" "kind" "I" ∈ wsL_law := wr_r3 _ (List.mem_of_getElem? (i := 13) rfl)
theorem m_62 : Cond.fieldLink RX6 25 "TankChain$Tape" "begin" "I" ∈ wsL_law := wr_r3 _ (List.mem_of_getElem? (i := 14) rfl)
theorem m_63 : Cond.fieldLink RX6 28 "TankChain$Tape" "end" "I" ∈ wsL_law := wr_r3 _ (List.mem_of_getElem? (i := 15) rfl)
theorem m_64 : Cond.instanceMethod yX0_init ∈ wsL_law := wr_r3 _ (List.mem_of_getElem? (i := 16) rfl)
theorem m_65 : Cond.code yX0_init cX0_init 1 none ∈ wsL_law := wr_r3 _ (List.mem_of_getElem? (i := 17) rfl)
theorem m_66 : Cond.methodLink RX0 3 objectInit ∈ wsL_law := wr_r3 _ (List.mem_of_getElem? (i := 18) rfl)
theorem m_67 : Cond.arrayClass .int ∈ wsL_law := wr_r3 _ (List.mem_of_getElem? (i := 19) rfl)
theorem m_68 : Cond.fieldLink RX0 9 "TankChain$Custom" "firsts" "[I" ∈ wsL_law := wr_r3 _ (List.mem_of_getElem? (i := 20) rfl)
theorem m_69 : Cond.fieldLink RX0 15 "TankChain$Custom" "firstsThere" "I" ∈ wsL_law := wr_r3 _ (List.mem_of_getElem? (i := 21) rfl)
theorem m_70 : Cond.fieldLink RX0 19 "TankChain$Custom" "near" "I" ∈ wsL_law := wr_r3 _ (List.mem_of_getElem? (i := 22) rfl)
theorem m_71 : Cond.fieldLink RX0 22 "TankChain$Custom" "hold" "I" ∈ wsL_law := wr_r3 _ (List.mem_of_getElem? (i := 23) rfl)
theorem wr_r4 : ∀ w ∈ wsL_law_r4, w ∈ wsL_law := fun w h => wr_in w (List.mem_append_right _ (List.mem_append_right _ (List.mem_append_right _ (List.mem_append_left _ h))))
theorem m_72 : Cond.fieldLink RX0 25 "TankChain$Custom" "fair" "Z" ∈ wsL_law := wr_r4 _ (List.mem_of_getElem? (i := 0) rfl)
theorem m_73 : Cond.fieldLink RX0 29 "TankChain$Custom" "statements" "I" ∈ wsL_law := wr_r4 _ (List.mem_of_getElem? (i := 1) rfl)
theorem m_74 : Cond.instanceMethod yX4_init ∈ wsL_law := wr_r4 _ (List.mem_of_getElem? (i := 2) rfl)
theorem m_75 : Cond.code yX4_init cX4_init 1 none ∈ wsL_law := wr_r4 _ (List.mem_of_getElem? (i := 3) rfl)
theorem m_76 : Cond.methodLink RX4 1 objectInit ∈ wsL_law := wr_r4 _ (List.mem_of_getElem? (i := 4) rfl)
theorem m_77 : Cond.fieldLink RX4 7 "TankChain$Sums" "rained" "I" ∈ wsL_law := wr_r4 _ (List.mem_of_getElem? (i := 5) rfl)
theorem m_78 : Cond.fieldLink RX4 13 "TankChain$Sums" "seeped" "I" ∈ wsL_law := wr_r4 _ (List.mem_of_getElem? (i := 6) rfl)
theorem m_79 : Cond.fieldLink RX4 16 "TankChain$Sums" "kept" "I" ∈ wsL_law := wr_r4 _ (List.mem_of_getElem? (i := 7) rfl)
theorem m_80 : Cond.fieldLink RX4 19 "TankChain$Sums" "out" "I" ∈ wsL_law := wr_r4 _ (List.mem_of_getElem? (i := 8) rfl)
theorem m_81 : Cond.methodLink RX7 79 yX5_init ∈ wsL_law := wr_r4 _ (List.mem_of_getElem? (i := 9) rfl)
theorem m_82 : Cond.instanceMethod yX5_init ∈ wsL_law := wr_r4 _ (List.mem_of_getElem? (i := 10) rfl)
theorem m_83 : Cond.code yX5_init cX5_init 3 none ∈ wsL_law := wr_r4 _ (List.mem_of_getElem? (i := 11) rfl)
theorem m_84 : Cond.methodLink RX5 3 objectInit ∈ wsL_law := wr_r4 _ (List.mem_of_getElem? (i := 12) rfl)
theorem m_85 : Cond.classLink RX5 9 RX3 ∈ wsL_law := wr_r4 _ (List.mem_of_getElem? (i := 13) rfl)
theorem m_86 : Cond.instantiable RX3 5 ∈ wsL_law := wr_r4 _ (List.mem_of_getElem? (i := 14) rfl)
theorem m_87 : Cond.initialized RX3 ∈ wsL_law := wr_r4 _ (List.mem_of_getElem? (i := 15) rfl)
theorem m_88 : Cond.fieldLink RX5 12 "TankChain$Tank" "now" "LTankChain$Pool;" ∈ wsL_law := wr_r4 _ (List.mem_of_getElem? (i := 16) rfl)
theorem m_89 : Cond.fieldLink RX5 18 "TankChain$Tank" "after" "LTankChain$Pool;" ∈ wsL_law := wr_r4 _ (List.mem_of_getElem? (i := 17) rfl)
theorem m_90 : Cond.fieldLink RX5 21 "TankChain$Tank" "catches" "I" ∈ wsL_law := wr_r4 _ (List.mem_of_getElem? (i := 18) rfl)
theorem m_91 : Cond.fieldLink RX5 25 "TankChain$Tank" "size" "I" ∈ wsL_law := wr_r4 _ (List.mem_of_getElem? (i := 19) rfl)
theorem m_92 : Cond.fieldLink RX5 28 "TankChain$Tank" "bank" "I" ∈ wsL_law := wr_r4 _ (List.mem_of_getElem? (i := 20) rfl)
theorem m_93 : Cond.fieldLink RX5 31 "TankChain$Tank" "silt" "I" ∈ wsL_law := wr_r4 _ (List.mem_of_getElem? (i := 21) rfl)
theorem m_94 : Cond.fieldLink RX5 34 "TankChain$Tank" "breachedOn" "I" ∈ wsL_law := wr_r4 _ (List.mem_of_getElem? (i := 22) rfl)
theorem m_95 : Cond.fieldLink RX5 37 "TankChain$Tank" "firstField" "LTankChain$Field;" ∈ wsL_law := wr_r4 _ (List.mem_of_getElem? (i := 23) rfl)
theorem wr_r5 : ∀ w ∈ wsL_law_r5, w ∈ wsL_law := fun w h => wr_in w (List.mem_append_right _ (List.mem_append_right _ (List.mem_append_right _ (List.mem_append_right _ (List.mem_append_left _ h)))))
theorem m_96 : Cond.fieldLink RX5 41 "TankChain$Tank" "number" "I" ∈ wsL_law := wr_r5 _ (List.mem_of_getElem? (i := 0) rfl)
theorem m_97 : Cond.fieldLink RX5 44 "TankChain$Tank" "below" "LTankChain$Tank;" ∈ wsL_law := wr_r5 _ (List.mem_of_getElem? (i := 1) rfl)
theorem m_98 : Cond.instanceMethod yX3_init ∈ wsL_law := wr_r5 _ (List.mem_of_getElem? (i := 2) rfl)
theorem m_99 : Cond.code yX3_init cX3_init 1 none ∈ wsL_law := wr_r5 _ (List.mem_of_getElem? (i := 3) rfl)
theorem m_100 : Cond.methodLink RX3 1 objectInit ∈ wsL_law := wr_r5 _ (List.mem_of_getElem? (i := 4) rfl)
theorem m_101 : Cond.fieldLink RX3 7 "TankChain$Pool" "water" "I" ∈ wsL_law := wr_r5 _ (List.mem_of_getElem? (i := 5) rfl)
theorem m_102 : Cond.fieldLink RX3 13 "TankChain$Pool" "opening" "I" ∈ wsL_law := wr_r5 _ (List.mem_of_getElem? (i := 6) rfl)
theorem m_103 : Cond.fieldLink RX3 16 "TankChain$Pool" "breached" "Z" ∈ wsL_law := wr_r5 _ (List.mem_of_getElem? (i := 7) rfl)
theorem m_104 : Cond.fieldLink RX3 20 "TankChain$Pool" "taken" "I" ∈ wsL_law := wr_r5 _ (List.mem_of_getElem? (i := 8) rfl)
theorem m_105 : Cond.fieldLink RX3 23 "TankChain$Pool" "spilt" "I" ∈ wsL_law := wr_r5 _ (List.mem_of_getElem? (i := 9) rfl)
theorem m_106 : Cond.methodLink RX7 84 yX2_init ∈ wsL_law := wr_r5 _ (List.mem_of_getElem? (i := 10) rfl)
theorem m_107 : Cond.instanceMethod yX2_init ∈ wsL_law := wr_r5 _ (List.mem_of_getElem? (i := 11) rfl)
theorem m_108 : Cond.code yX2_init cX2_init 3 none ∈ wsL_law := wr_r5 _ (List.mem_of_getElem? (i := 12) rfl)
theorem m_109 : Cond.methodLink RX2 3 objectInit ∈ wsL_law := wr_r5 _ (List.mem_of_getElem? (i := 13) rfl)
theorem m_110 : Cond.classLink RX2 9 RX4 ∈ wsL_law := wr_r5 _ (List.mem_of_getElem? (i := 14) rfl)
theorem m_111 : Cond.fieldLink RX2 12 "TankChain$Flow" "sums" "LTankChain$Sums;" ∈ wsL_law := wr_r5 _ (List.mem_of_getElem? (i := 15) rfl)
theorem m_112 : Cond.fieldLink RX2 18 "TankChain$Flow" "areasFed" "I" ∈ wsL_law := wr_r5 _ (List.mem_of_getElem? (i := 16) rfl)
theorem m_113 : Cond.fieldLink RX2 22 "TankChain$Flow" "head" "LTankChain$Tank;" ∈ wsL_law := wr_r5 _ (List.mem_of_getElem? (i := 17) rfl)
theorem m_114 : Cond.fieldLink RX2 26 "TankChain$Flow" "custom" "LTankChain$Custom;" ∈ wsL_law := wr_r5 _ (List.mem_of_getElem? (i := 18) rfl)
theorem m_115 : Cond.methodLink RL 20 yX8_init ∈ wsL_law := wr_r5 _ (List.mem_of_getElem? (i := 19) rfl)
theorem m_116 : Cond.instanceMethod yX8_init ∈ wsL_law := wr_r5 _ (List.mem_of_getElem? (i := 20) rfl)
theorem m_117 : Cond.code yX8_init cX8_init 3 none ∈ wsL_law := wr_r5 _ (List.mem_of_getElem? (i := 21) rfl)
theorem m_118 : Cond.methodLink RX8 1 objectInit ∈ wsL_law := wr_r5 _ (List.mem_of_getElem? (i := 22) rfl)
theorem m_119 : Cond.fieldLink RX8 7 "TankChainModel" "catches" "[I" ∈ wsL_law := wr_r5 _ (List.mem_of_getElem? (i := 23) rfl)
theorem wr_r6 : ∀ w ∈ wsL_law_r6, w ∈ wsL_law := fun w h => wr_in w (List.mem_append_right _ (List.mem_append_right _ (List.mem_append_right _ (List.mem_append_right _ (List.mem_append_right _ (List.mem_append_left _ h))))))
theorem m_120 : Cond.fieldLink RX8 13 "TankChainModel" "size" "[I" ∈ wsL_law := wr_r6 _ (List.mem_of_getElem? (i := 0) rfl)
theorem m_121 : Cond.fieldLink RX8 16 "TankChainModel" "bank" "[I" ∈ wsL_law := wr_r6 _ (List.mem_of_getElem? (i := 1) rfl)
theorem m_122 : Cond.fieldLink RX8 19 "TankChainModel" "water" "[I" ∈ wsL_law := wr_r6 _ (List.mem_of_getElem? (i := 2) rfl)
theorem m_123 : Cond.fieldLink RX8 22 "TankChainModel" "opening" "[I" ∈ wsL_law := wr_r6 _ (List.mem_of_getElem? (i := 3) rfl)
theorem m_124 : Cond.fieldLink RX8 25 "TankChainModel" "silt" "[I" ∈ wsL_law := wr_r6 _ (List.mem_of_getElem? (i := 4) rfl)
theorem m_125 : Cond.fieldLink RX8 28 "TankChainModel" "taken" "[I" ∈ wsL_law := wr_r6 _ (List.mem_of_getElem? (i := 5) rfl)
theorem m_126 : Cond.fieldLink RX8 31 "TankChainModel" "spilt" "[I" ∈ wsL_law := wr_r6 _ (List.mem_of_getElem? (i := 6) rfl)
theorem m_127 : Cond.fieldLink RX8 34 "TankChainModel" "breachedOn" "[I" ∈ wsL_law := wr_r6 _ (List.mem_of_getElem? (i := 7) rfl)
theorem m_128 : Cond.arrayClass .boolean ∈ wsL_law := wr_r6 _ (List.mem_of_getElem? (i := 8) rfl)
theorem m_129 : Cond.fieldLink RX8 37 "TankChainModel" "isBreached" "[Z" ∈ wsL_law := wr_r6 _ (List.mem_of_getElem? (i := 9) rfl)
theorem m_130 : Cond.fieldLink RX8 41 "TankChainModel" "fieldTank" "[I" ∈ wsL_law := wr_r6 _ (List.mem_of_getElem? (i := 10) rfl)
theorem m_131 : Cond.fieldLink RX8 44 "TankChainModel" "far" "[I" ∈ wsL_law := wr_r6 _ (List.mem_of_getElem? (i := 11) rfl)
theorem m_132 : Cond.fieldLink RX8 47 "TankChainModel" "area" "[I" ∈ wsL_law := wr_r6 _ (List.mem_of_getElem? (i := 12) rfl)
theorem m_133 : Cond.fieldLink RX8 50 "TankChainModel" "owner" "[I" ∈ wsL_law := wr_r6 _ (List.mem_of_getElem? (i := 13) rfl)
theorem m_134 : Cond.fieldLink RX8 53 "TankChainModel" "daysFed" "[I" ∈ wsL_law := wr_r6 _ (List.mem_of_getElem? (i := 14) rfl)
theorem m_135 : Cond.fieldLink RX8 56 "TankChainModel" "allGot" "[I" ∈ wsL_law := wr_r6 _ (List.mem_of_getElem? (i := 15) rfl)
theorem m_136 : Cond.fieldLink RX8 59 "TankChainModel" "lastGot" "[I" ∈ wsL_law := wr_r6 _ (List.mem_of_getElem? (i := 16) rfl)
theorem m_137 : Cond.fieldLink RX8 62 "TankChainModel" "isTemple" "[Z" ∈ wsL_law := wr_r6 _ (List.mem_of_getElem? (i := 17) rfl)
theorem m_138 : Cond.fieldLink RX8 65 "TankChainModel" "owners" "[I" ∈ wsL_law := wr_r6 _ (List.mem_of_getElem? (i := 18) rfl)
theorem m_139 : Cond.fieldLink RX8 68 "TankChainModel" "firstBreach" "I" ∈ wsL_law := wr_r6 _ (List.mem_of_getElem? (i := 19) rfl)
theorem m_140 : Cond.fieldLink RX8 72 "TankChainModel" "breaches" "I" ∈ wsL_law := wr_r6 _ (List.mem_of_getElem? (i := 20) rfl)
theorem m_141 : Cond.fieldLink RX8 75 "TankChainModel" "breachDay" "I" ∈ wsL_law := wr_r6 _ (List.mem_of_getElem? (i := 21) rfl)
theorem m_142 : Cond.fieldLink RX8 78 "TankChainModel" "tape" "[B" ∈ wsL_law := wr_r6 _ (List.mem_of_getElem? (i := 22) rfl)
theorem m_143 : Cond.fieldLink RX8 82 "TankChainModel" "text" "[B" ∈ wsL_law := wr_r6 _ (List.mem_of_getElem? (i := 23) rfl)
theorem wr_r7 : ∀ w ∈ wsL_law_r7, w ∈ wsL_law := fun w h => wr_in w (List.mem_append_right _ (List.mem_append_right _ (List.mem_append_right _ (List.mem_append_right _ (List.mem_append_right _ (List.mem_append_right _ (List.mem_append_left _ h)))))))
theorem m_144 : Cond.fieldLink RX8 85 "TankChainModel" "fault" "I" ∈ wsL_law := wr_r7 _ (List.mem_of_getElem? (i := 0) rfl)
theorem m_145 : Cond.fieldLink RX8 88 "TankChainModel" "told" "[I" ∈ wsL_law := wr_r7 _ (List.mem_of_getElem? (i := 1) rfl)
theorem m_146 : Cond.fieldLink RX8 91 "TankChainModel" "row" "[I" ∈ wsL_law := wr_r7 _ (List.mem_of_getElem? (i := 2) rfl)
theorem m_147 : Cond.fieldLink RX8 94 "TankChainModel" "got" "[I" ∈ wsL_law := wr_r7 _ (List.mem_of_getElem? (i := 3) rfl)
theorem m_148 : Cond.fieldLink RX8 97 "TankChainModel" "hasMore" "[Z" ∈ wsL_law := wr_r7 _ (List.mem_of_getElem? (i := 4) rfl)
theorem m_149 : Cond.fieldLink RX8 100 "TankChainModel" "triedWater" "[I" ∈ wsL_law := wr_r7 _ (List.mem_of_getElem? (i := 5) rfl)
theorem m_150 : Cond.fieldLink RX8 103 "TankChainModel" "triedOpening" "[I" ∈ wsL_law := wr_r7 _ (List.mem_of_getElem? (i := 6) rfl)
theorem m_151 : Cond.fieldLink RX8 106 "TankChainModel" "triedBreach" "[Z" ∈ wsL_law := wr_r7 _ (List.mem_of_getElem? (i := 7) rfl)
theorem m_152 : Cond.methodLink RX8 109 Lib.Math.min.name ∈ wsL_law := wr_r7 _ (List.mem_of_getElem? (i := 8) rfl)
theorem m_153 : Cond.methodLink RX8 115 Lib.Math.max.name ∈ wsL_law := wr_r7 _ (List.mem_of_getElem? (i := 9) rfl)
theorem m_154 : Cond.fieldLink RX8 118 "TankChainModel" "tanks" "I" ∈ wsL_law := wr_r7 _ (List.mem_of_getElem? (i := 10) rfl)
theorem m_155 : Cond.methodLink RL 21 yX7_tank ∈ wsL_law := wr_r7 _ (List.mem_of_getElem? (i := 11) rfl)
theorem m_156 : Cond.instanceMethod yX7_tank ∈ wsL_law := wr_r7 _ (List.mem_of_getElem? (i := 12) rfl)
theorem m_157 : Cond.selects RX7 yX7_tank yX7_tank ∈ wsL_law := wr_r7 _ (List.mem_of_getElem? (i := 13) rfl)
theorem m_158 : Cond.code yX7_tank cX7_tank 7 (some .boolean) ∈ wsL_law := wr_r7 _ (List.mem_of_getElem? (i := 14) rfl)
theorem m_159 : Cond.fieldLink RX7 99 "TankChain$Tank" "catches" "I" ∈ wsL_law := wr_r7 _ (List.mem_of_getElem? (i := 15) rfl)
theorem m_160 : Cond.fieldLink RX7 102 "TankChain$Tank" "size" "I" ∈ wsL_law := wr_r7 _ (List.mem_of_getElem? (i := 16) rfl)
theorem m_161 : Cond.fieldLink RX7 105 "TankChain$Tank" "bank" "I" ∈ wsL_law := wr_r7 _ (List.mem_of_getElem? (i := 17) rfl)
theorem m_162 : Cond.methodLink RX7 91 yX7_tankAt ∈ wsL_law := wr_r7 _ (List.mem_of_getElem? (i := 18) rfl)
theorem m_163 : Cond.instanceMethod yX7_tankAt ∈ wsL_law := wr_r7 _ (List.mem_of_getElem? (i := 19) rfl)
theorem m_164 : Cond.selects RX7 yX7_tankAt yX7_tankAt ∈ wsL_law := wr_r7 _ (List.mem_of_getElem? (i := 20) rfl)
theorem m_165 : Cond.code yX7_tankAt cX7_tankAt 2 (some (.object "TankChain$Tank")) ∈ wsL_law := wr_r7 _ (List.mem_of_getElem? (i := 21) rfl)
theorem m_166 : Cond.methodLink RX7 95 yX7_isWithin ∈ wsL_law := wr_r7 _ (List.mem_of_getElem? (i := 22) rfl)
theorem m_167 : Cond.static yX7_isWithin ∈ wsL_law := wr_r7 _ (List.mem_of_getElem? (i := 23) rfl)
theorem wr_r8 : ∀ w ∈ wsL_law_r8, w ∈ wsL_law := fun w h => wr_in w (List.mem_append_right _ (List.mem_append_right _ (List.mem_append_right _ (List.mem_append_right _ (List.mem_append_right _ (List.mem_append_right _ (List.mem_append_right _ (List.mem_append_left _ h))))))))
theorem m_168 : Cond.code yX7_isWithin cX7_isWithin 3 (some .boolean) ∈ wsL_law := wr_r8 _ (List.mem_of_getElem? (i := 0) rfl)
theorem m_169 : Cond.methodLink RL 25 yX8_tank ∈ wsL_law := wr_r8 _ (List.mem_of_getElem? (i := 1) rfl)
theorem m_170 : Cond.instanceMethod yX8_tank ∈ wsL_law := wr_r8 _ (List.mem_of_getElem? (i := 2) rfl)
theorem m_171 : Cond.selects RX8 yX8_tank yX8_tank ∈ wsL_law := wr_r8 _ (List.mem_of_getElem? (i := 3) rfl)
theorem m_172 : Cond.code yX8_tank cX8_tank 5 (some .boolean) ∈ wsL_law := wr_r8 _ (List.mem_of_getElem? (i := 4) rfl)
theorem m_173 : Cond.fieldLink RX8 129 "TankChainModel" "day" "I" ∈ wsL_law := wr_r8 _ (List.mem_of_getElem? (i := 5) rfl)
theorem m_174 : Cond.methodLink RX8 125 yX8_isTank ∈ wsL_law := wr_r8 _ (List.mem_of_getElem? (i := 6) rfl)
theorem m_175 : Cond.instanceMethod yX8_isTank ∈ wsL_law := wr_r8 _ (List.mem_of_getElem? (i := 7) rfl)
theorem m_176 : Cond.selects RX8 yX8_isTank yX8_isTank ∈ wsL_law := wr_r8 _ (List.mem_of_getElem? (i := 8) rfl)
theorem m_177 : Cond.code yX8_isTank cX8_isTank 2 (some .boolean) ∈ wsL_law := wr_r8 _ (List.mem_of_getElem? (i := 9) rfl)
theorem m_178 : Cond.methodLink RX8 121 yX8_isIn ∈ wsL_law := wr_r8 _ (List.mem_of_getElem? (i := 10) rfl)
theorem m_179 : Cond.static yX8_isIn ∈ wsL_law := wr_r8 _ (List.mem_of_getElem? (i := 11) rfl)
theorem m_180 : Cond.code yX8_isIn cX8_isIn 3 (some .boolean) ∈ wsL_law := wr_r8 _ (List.mem_of_getElem? (i := 12) rfl)
theorem m_181 : Cond.methodLink RL 26 yX7_water ∈ wsL_law := wr_r8 _ (List.mem_of_getElem? (i := 13) rfl)
theorem m_182 : Cond.instanceMethod yX7_water ∈ wsL_law := wr_r8 _ (List.mem_of_getElem? (i := 14) rfl)
theorem m_183 : Cond.selects RX7 yX7_water yX7_water ∈ wsL_law := wr_r8 _ (List.mem_of_getElem? (i := 15) rfl)
theorem m_184 : Cond.code yX7_water cX7_water 4 (some .boolean) ∈ wsL_law := wr_r8 _ (List.mem_of_getElem? (i := 16) rfl)
theorem m_185 : Cond.fieldLink RX7 108 "TankChain$Tank" "now" "LTankChain$Pool;" ∈ wsL_law := wr_r8 _ (List.mem_of_getElem? (i := 17) rfl)
theorem m_186 : Cond.fieldLink RX7 112 "TankChain$Pool" "breached" "Z" ∈ wsL_law := wr_r8 _ (List.mem_of_getElem? (i := 18) rfl)
theorem m_187 : Cond.fieldLink RX7 122 "TankChain$Pool" "water" "I" ∈ wsL_law := wr_r8 _ (List.mem_of_getElem? (i := 19) rfl)
theorem m_188 : Cond.methodLink RX7 118 yX5_roomIf ∈ wsL_law := wr_r8 _ (List.mem_of_getElem? (i := 20) rfl)
theorem m_189 : Cond.instanceMethod yX5_roomIf ∈ wsL_law := wr_r8 _ (List.mem_of_getElem? (i := 21) rfl)
theorem m_190 : Cond.selects RX5 yX5_roomIf yX5_roomIf ∈ wsL_law := wr_r8 _ (List.mem_of_getElem? (i := 22) rfl)
theorem m_191 : Cond.code yX5_roomIf cX5_roomIf 2 (some .int) ∈ wsL_law := wr_r8 _ (List.mem_of_getElem? (i := 23) rfl)
theorem wr_r9 : ∀ w ∈ wsL_law_r9, w ∈ wsL_law := fun w h => wr_in w (List.mem_append_right _ (List.mem_append_right _ (List.mem_append_right _ (List.mem_append_right _ (List.mem_append_right _ (List.mem_append_right _ (List.mem_append_right _ (List.mem_append_right _ (List.mem_append_left _ h)))))))))
theorem m_192 : Cond.methodLink RL 30 yX8_water ∈ wsL_law := wr_r9 _ (List.mem_of_getElem? (i := 0) rfl)
theorem m_193 : Cond.instanceMethod yX8_water ∈ wsL_law := wr_r9 _ (List.mem_of_getElem? (i := 1) rfl)
theorem m_194 : Cond.selects RX8 yX8_water yX8_water ∈ wsL_law := wr_r9 _ (List.mem_of_getElem? (i := 2) rfl)
theorem m_195 : Cond.code yX8_water cX8_water 3 (some .boolean) ∈ wsL_law := wr_r9 _ (List.mem_of_getElem? (i := 3) rfl)
theorem m_196 : Cond.fieldLink RX8 136 "TankChainModel" "toldMore" "I" ∈ wsL_law := wr_r9 _ (List.mem_of_getElem? (i := 4) rfl)
theorem m_197 : Cond.methodLink RX8 132 yX8_room ∈ wsL_law := wr_r9 _ (List.mem_of_getElem? (i := 5) rfl)
theorem m_198 : Cond.instanceMethod yX8_room ∈ wsL_law := wr_r9 _ (List.mem_of_getElem? (i := 6) rfl)
theorem m_199 : Cond.selects RX8 yX8_room yX8_room ∈ wsL_law := wr_r9 _ (List.mem_of_getElem? (i := 7) rfl)
theorem m_200 : Cond.code yX8_room cX8_room 3 (some .int) ∈ wsL_law := wr_r9 _ (List.mem_of_getElem? (i := 8) rfl)
theorem m_201 : Cond.methodLink RL 31 yX7_field ∈ wsL_law := wr_r9 _ (List.mem_of_getElem? (i := 9) rfl)
theorem m_202 : Cond.instanceMethod yX7_field ∈ wsL_law := wr_r9 _ (List.mem_of_getElem? (i := 10) rfl)
theorem m_203 : Cond.selects RX7 yX7_field yX7_field ∈ wsL_law := wr_r9 _ (List.mem_of_getElem? (i := 11) rfl)
theorem m_204 : Cond.code yX7_field cX7_field 10 (some .int) ∈ wsL_law := wr_r9 _ (List.mem_of_getElem? (i := 12) rfl)
theorem m_205 : Cond.instantiable RX1 12 ∈ wsL_law := wr_r9 _ (List.mem_of_getElem? (i := 13) rfl)
theorem m_206 : Cond.initialized RX1 ∈ wsL_law := wr_r9 _ (List.mem_of_getElem? (i := 14) rfl)
theorem m_207 : Cond.methodLink RX7 125 yX1_init ∈ wsL_law := wr_r9 _ (List.mem_of_getElem? (i := 15) rfl)
theorem m_208 : Cond.instanceMethod yX1_init ∈ wsL_law := wr_r9 _ (List.mem_of_getElem? (i := 16) rfl)
theorem m_209 : Cond.code yX1_init cX1_init 7 none ∈ wsL_law := wr_r9 _ (List.mem_of_getElem? (i := 17) rfl)
theorem m_210 : Cond.methodLink RX1 1 objectInit ∈ wsL_law := wr_r9 _ (List.mem_of_getElem? (i := 18) rfl)
theorem m_211 : Cond.fieldLink RX1 7 "TankChain$Field" "next" "LTankChain$Field;" ∈ wsL_law := wr_r9 _ (List.mem_of_getElem? (i := 19) rfl)
theorem m_212 : Cond.fieldLink RX1 13 "TankChain$Field" "share" "I" ∈ wsL_law := wr_r9 _ (List.mem_of_getElem? (i := 20) rfl)
theorem m_213 : Cond.fieldLink RX1 17 "TankChain$Field" "remainder" "I" ∈ wsL_law := wr_r9 _ (List.mem_of_getElem? (i := 21) rfl)
theorem m_214 : Cond.fieldLink RX1 20 "TankChain$Field" "daysFed" "I" ∈ wsL_law := wr_r9 _ (List.mem_of_getElem? (i := 22) rfl)
theorem m_215 : Cond.fieldLink RX1 23 "TankChain$Field" "gotEver" "I" ∈ wsL_law := wr_r9 _ (List.mem_of_getElem? (i := 23) rfl)
theorem wr_r10 : ∀ w ∈ wsL_law_r10, w ∈ wsL_law := fun w h => wr_in w (List.mem_append_right _ (List.mem_append_right _ (List.mem_append_right _ (List.mem_append_right _ (List.mem_append_right _ (List.mem_append_right _ (List.mem_append_right _ (List.mem_append_right _ (List.mem_append_right _ (List.mem_append_left _ h))))))))))
theorem m_216 : Cond.fieldLink RX1 26 "TankChain$Field" "gotLately" "I" ∈ wsL_law := wr_r10 _ (List.mem_of_getElem? (i := 0) rfl)
theorem m_217 : Cond.fieldLink RX1 29 "TankChain$Field" "number" "I" ∈ wsL_law := wr_r10 _ (List.mem_of_getElem? (i := 1) rfl)
theorem m_218 : Cond.fieldLink RX1 32 "TankChain$Field" "tank" "I" ∈ wsL_law := wr_r10 _ (List.mem_of_getElem? (i := 2) rfl)
theorem m_219 : Cond.fieldLink RX1 35 "TankChain$Field" "far" "I" ∈ wsL_law := wr_r10 _ (List.mem_of_getElem? (i := 3) rfl)
theorem m_220 : Cond.fieldLink RX1 38 "TankChain$Field" "area" "I" ∈ wsL_law := wr_r10 _ (List.mem_of_getElem? (i := 4) rfl)
theorem m_221 : Cond.fieldLink RX1 41 "TankChain$Field" "owner" "I" ∈ wsL_law := wr_r10 _ (List.mem_of_getElem? (i := 5) rfl)
theorem m_222 : Cond.fieldLink RX1 44 "TankChain$Field" "temple" "Z" ∈ wsL_law := wr_r10 _ (List.mem_of_getElem? (i := 6) rfl)
theorem m_223 : Cond.methodLink RX7 128 yX5_putInOrder ∈ wsL_law := wr_r10 _ (List.mem_of_getElem? (i := 7) rfl)
theorem m_224 : Cond.instanceMethod yX5_putInOrder ∈ wsL_law := wr_r10 _ (List.mem_of_getElem? (i := 8) rfl)
theorem m_225 : Cond.selects RX5 yX5_putInOrder yX5_putInOrder ∈ wsL_law := wr_r10 _ (List.mem_of_getElem? (i := 9) rfl)
theorem m_226 : Cond.code yX5_putInOrder cX5_putInOrder 5 none ∈ wsL_law := wr_r10 _ (List.mem_of_getElem? (i := 10) rfl)
theorem m_227 : Cond.fieldLink RX5 54 "TankChain$Field" "next" "LTankChain$Field;" ∈ wsL_law := wr_r10 _ (List.mem_of_getElem? (i := 11) rfl)
theorem m_228 : Cond.methodLink RX5 48 yX0_isAhead ∈ wsL_law := wr_r10 _ (List.mem_of_getElem? (i := 12) rfl)
theorem m_229 : Cond.instanceMethod yX0_isAhead ∈ wsL_law := wr_r10 _ (List.mem_of_getElem? (i := 13) rfl)
theorem m_230 : Cond.selects RX0 yX0_isAhead yX0_isAhead ∈ wsL_law := wr_r10 _ (List.mem_of_getElem? (i := 14) rfl)
theorem m_231 : Cond.code yX0_isAhead cX0_isAhead 5 (some .boolean) ∈ wsL_law := wr_r10 _ (List.mem_of_getElem? (i := 15) rfl)
theorem m_232 : Cond.fieldLink RX0 43 "TankChain$Field" "number" "I" ∈ wsL_law := wr_r10 _ (List.mem_of_getElem? (i := 16) rfl)
theorem m_233 : Cond.methodLink RX0 39 yX0_rank ∈ wsL_law := wr_r10 _ (List.mem_of_getElem? (i := 17) rfl)
theorem m_234 : Cond.static yX0_rank ∈ wsL_law := wr_r10 _ (List.mem_of_getElem? (i := 18) rfl)
theorem m_235 : Cond.code yX0_rank cX0_rank 2 (some .int) ∈ wsL_law := wr_r10 _ (List.mem_of_getElem? (i := 19) rfl)
theorem m_236 : Cond.fieldLink RX0 48 "TankChain$Field" "temple" "Z" ∈ wsL_law := wr_r10 _ (List.mem_of_getElem? (i := 20) rfl)
theorem m_237 : Cond.fieldLink RX0 51 "TankChain$Field" "area" "I" ∈ wsL_law := wr_r10 _ (List.mem_of_getElem? (i := 21) rfl)
theorem m_238 : Cond.fieldLink RX0 54 "TankChain$Field" "far" "I" ∈ wsL_law := wr_r10 _ (List.mem_of_getElem? (i := 22) rfl)
theorem m_239 : Cond.methodLink RL 35 yX8_field ∈ wsL_law := wr_r10 _ (List.mem_of_getElem? (i := 23) rfl)
theorem wr_r11 : ∀ w ∈ wsL_law_r11, w ∈ wsL_law := fun w h => wr_in w (List.mem_append_right _ (List.mem_append_right _ (List.mem_append_right _ (List.mem_append_right _ (List.mem_append_right _ (List.mem_append_right _ (List.mem_append_right _ (List.mem_append_right _ (List.mem_append_right _ (List.mem_append_right _ (List.mem_append_left _ h)))))))))))
theorem m_240 : Cond.instanceMethod yX8_field ∈ wsL_law := wr_r11 _ (List.mem_of_getElem? (i := 0) rfl)
theorem m_241 : Cond.selects RX8 yX8_field yX8_field ∈ wsL_law := wr_r11 _ (List.mem_of_getElem? (i := 1) rfl)
theorem m_242 : Cond.code yX8_field cX8_field 6 (some .int) ∈ wsL_law := wr_r11 _ (List.mem_of_getElem? (i := 2) rfl)
theorem m_243 : Cond.fieldLink RX8 139 "TankChainModel" "fields" "I" ∈ wsL_law := wr_r11 _ (List.mem_of_getElem? (i := 3) rfl)
theorem m_244 : Cond.methodLink RL 36 yX7_open ∈ wsL_law := wr_r11 _ (List.mem_of_getElem? (i := 4) rfl)
theorem m_245 : Cond.instanceMethod yX7_open ∈ wsL_law := wr_r11 _ (List.mem_of_getElem? (i := 5) rfl)
theorem m_246 : Cond.selects RX7 yX7_open yX7_open ∈ wsL_law := wr_r11 _ (List.mem_of_getElem? (i := 6) rfl)
theorem m_247 : Cond.code yX7_open cX7_open 4 (some .boolean) ∈ wsL_law := wr_r11 _ (List.mem_of_getElem? (i := 7) rfl)
theorem m_248 : Cond.fieldLink RX7 132 "TankChain$Pool" "opening" "I" ∈ wsL_law := wr_r11 _ (List.mem_of_getElem? (i := 8) rfl)
theorem m_249 : Cond.methodLink RL 39 yX8_open ∈ wsL_law := wr_r11 _ (List.mem_of_getElem? (i := 9) rfl)
theorem m_250 : Cond.instanceMethod yX8_open ∈ wsL_law := wr_r11 _ (List.mem_of_getElem? (i := 10) rfl)
theorem m_251 : Cond.selects RX8 yX8_open yX8_open ∈ wsL_law := wr_r11 _ (List.mem_of_getElem? (i := 11) rfl)
theorem m_252 : Cond.code yX8_open cX8_open 3 (some .boolean) ∈ wsL_law := wr_r11 _ (List.mem_of_getElem? (i := 12) rfl)
theorem m_253 : Cond.methodLink RL 40 yX7_mend ∈ wsL_law := wr_r11 _ (List.mem_of_getElem? (i := 13) rfl)
theorem m_254 : Cond.instanceMethod yX7_mend ∈ wsL_law := wr_r11 _ (List.mem_of_getElem? (i := 14) rfl)
theorem m_255 : Cond.selects RX7 yX7_mend yX7_mend ∈ wsL_law := wr_r11 _ (List.mem_of_getElem? (i := 15) rfl)
theorem m_256 : Cond.code yX7_mend cX7_mend 4 (some .boolean) ∈ wsL_law := wr_r11 _ (List.mem_of_getElem? (i := 16) rfl)
theorem m_257 : Cond.methodLink RL 43 yX8_mend ∈ wsL_law := wr_r11 _ (List.mem_of_getElem? (i := 17) rfl)
theorem m_258 : Cond.instanceMethod yX8_mend ∈ wsL_law := wr_r11 _ (List.mem_of_getElem? (i := 18) rfl)
theorem m_259 : Cond.selects RX8 yX8_mend yX8_mend ∈ wsL_law := wr_r11 _ (List.mem_of_getElem? (i := 19) rfl)
theorem m_260 : Cond.code yX8_mend cX8_mend 3 (some .boolean) ∈ wsL_law := wr_r11 _ (List.mem_of_getElem? (i := 20) rfl)
theorem m_261 : Cond.methodLink RL 44 yX7_dredge ∈ wsL_law := wr_r11 _ (List.mem_of_getElem? (i := 21) rfl)
theorem m_262 : Cond.instanceMethod yX7_dredge ∈ wsL_law := wr_r11 _ (List.mem_of_getElem? (i := 22) rfl)
theorem m_263 : Cond.selects RX7 yX7_dredge yX7_dredge ∈ wsL_law := wr_r11 _ (List.mem_of_getElem? (i := 23) rfl)
theorem wr_r12 : ∀ w ∈ wsL_law_r12, w ∈ wsL_law := fun w h => wr_in w (List.mem_append_right _ (List.mem_append_right _ (List.mem_append_right _ (List.mem_append_right _ (List.mem_append_right _ (List.mem_append_right _ (List.mem_append_right _ (List.mem_append_right _ (List.mem_append_right _ (List.mem_append_right _ (List.mem_append_right _ (List.mem_append_left _ h))))))))))))
theorem m_264 : Cond.code yX7_dredge cX7_dredge 4 (some .int) ∈ wsL_law := wr_r12 _ (List.mem_of_getElem? (i := 0) rfl)
theorem m_265 : Cond.fieldLink RX7 135 "TankChain$Tank" "silt" "I" ∈ wsL_law := wr_r12 _ (List.mem_of_getElem? (i := 1) rfl)
theorem m_266 : Cond.methodLink RL 48 yX8_dredge ∈ wsL_law := wr_r12 _ (List.mem_of_getElem? (i := 2) rfl)
theorem m_267 : Cond.instanceMethod yX8_dredge ∈ wsL_law := wr_r12 _ (List.mem_of_getElem? (i := 3) rfl)
theorem m_268 : Cond.selects RX8 yX8_dredge yX8_dredge ∈ wsL_law := wr_r12 _ (List.mem_of_getElem? (i := 4) rfl)
theorem m_269 : Cond.code yX8_dredge cX8_dredge 3 (some .int) ∈ wsL_law := wr_r12 _ (List.mem_of_getElem? (i := 5) rfl)
theorem m_270 : Cond.methodLink RL 49 yX7_feed ∈ wsL_law := wr_r12 _ (List.mem_of_getElem? (i := 6) rfl)
theorem m_271 : Cond.instanceMethod yX7_feed ∈ wsL_law := wr_r12 _ (List.mem_of_getElem? (i := 7) rfl)
theorem m_272 : Cond.selects RX7 yX7_feed yX7_feed ∈ wsL_law := wr_r12 _ (List.mem_of_getElem? (i := 8) rfl)
theorem m_273 : Cond.code yX7_feed cX7_feed 6 (some .int) ∈ wsL_law := wr_r12 _ (List.mem_of_getElem? (i := 9) rfl)
theorem m_274 : Cond.fieldLink RX7 138 "TankChain$Tape" "held" "I" ∈ wsL_law := wr_r12 _ (List.mem_of_getElem? (i := 10) rfl)
theorem m_275 : Cond.methodLink RX7 141 yX6_putFour ∈ wsL_law := wr_r12 _ (List.mem_of_getElem? (i := 11) rfl)
theorem m_276 : Cond.instanceMethod yX6_putFour ∈ wsL_law := wr_r12 _ (List.mem_of_getElem? (i := 12) rfl)
theorem m_277 : Cond.selects RX6 yX6_putFour yX6_putFour ∈ wsL_law := wr_r12 _ (List.mem_of_getElem? (i := 13) rfl)
theorem m_278 : Cond.code yX6_putFour cX6_putFour 2 none ∈ wsL_law := wr_r12 _ (List.mem_of_getElem? (i := 14) rfl)
theorem m_279 : Cond.methodLink RX6 31 yX6_putByte ∈ wsL_law := wr_r12 _ (List.mem_of_getElem? (i := 15) rfl)
theorem m_280 : Cond.instanceMethod yX6_putByte ∈ wsL_law := wr_r12 _ (List.mem_of_getElem? (i := 16) rfl)
theorem m_281 : Cond.selects RX6 yX6_putByte yX6_putByte ∈ wsL_law := wr_r12 _ (List.mem_of_getElem? (i := 17) rfl)
theorem m_282 : Cond.code yX6_putByte cX6_putByte 2 none ∈ wsL_law := wr_r12 _ (List.mem_of_getElem? (i := 18) rfl)
theorem m_283 : Cond.methodLink RL 53 yX8_feed ∈ wsL_law := wr_r12 _ (List.mem_of_getElem? (i := 19) rfl)
theorem m_284 : Cond.instanceMethod yX8_feed ∈ wsL_law := wr_r12 _ (List.mem_of_getElem? (i := 20) rfl)
theorem m_285 : Cond.selects RX8 yX8_feed yX8_feed ∈ wsL_law := wr_r12 _ (List.mem_of_getElem? (i := 21) rfl)
theorem m_286 : Cond.code yX8_feed cX8_feed 6 (some .int) ∈ wsL_law := wr_r12 _ (List.mem_of_getElem? (i := 22) rfl)
theorem m_287 : Cond.fieldLink RX8 146 "TankChainModel" "taped" "I" ∈ wsL_law := wr_r12 _ (List.mem_of_getElem? (i := 23) rfl)
theorem wr_r13 : ∀ w ∈ wsL_law_r13, w ∈ wsL_law := fun w h => wr_in w (List.mem_append_right _ (List.mem_append_right _ (List.mem_append_right _ (List.mem_append_right _ (List.mem_append_right _ (List.mem_append_right _ (List.mem_append_right _ (List.mem_append_right _ (List.mem_append_right _ (List.mem_append_right _ (List.mem_append_right _ (List.mem_append_right _ (List.mem_append_left _ h)))))))))))))
theorem m_288 : Cond.methodLink RX8 149 yX8_four ∈ wsL_law := wr_r13 _ (List.mem_of_getElem? (i := 0) rfl)
theorem m_289 : Cond.instanceMethod yX8_four ∈ wsL_law := wr_r13 _ (List.mem_of_getElem? (i := 1) rfl)
theorem m_290 : Cond.selects RX8 yX8_four yX8_four ∈ wsL_law := wr_r13 _ (List.mem_of_getElem? (i := 2) rfl)
theorem m_291 : Cond.code yX8_four cX8_four 3 none ∈ wsL_law := wr_r13 _ (List.mem_of_getElem? (i := 3) rfl)
theorem m_292 : Cond.methodLink RL 54 yX7_custom ∈ wsL_law := wr_r13 _ (List.mem_of_getElem? (i := 4) rfl)
theorem m_293 : Cond.instanceMethod yX7_custom ∈ wsL_law := wr_r13 _ (List.mem_of_getElem? (i := 5) rfl)
theorem m_294 : Cond.selects RX7 yX7_custom yX7_custom ∈ wsL_law := wr_r13 _ (List.mem_of_getElem? (i := 6) rfl)
theorem m_295 : Cond.code yX7_custom cX7_custom 2 (some .int) ∈ wsL_law := wr_r13 _ (List.mem_of_getElem? (i := 7) rfl)
theorem m_296 : Cond.fieldLink RX7 156 "TankChain$Custom" "statements" "I" ∈ wsL_law := wr_r13 _ (List.mem_of_getElem? (i := 8) rfl)
theorem m_297 : Cond.methodLink RX7 145 yX6_faultReading ∈ wsL_law := wr_r13 _ (List.mem_of_getElem? (i := 9) rfl)
theorem m_298 : Cond.instanceMethod yX6_faultReading ∈ wsL_law := wr_r13 _ (List.mem_of_getElem? (i := 10) rfl)
theorem m_299 : Cond.selects RX6 yX6_faultReading yX6_faultReading ∈ wsL_law := wr_r13 _ (List.mem_of_getElem? (i := 11) rfl)
theorem m_300 : Cond.code yX6_faultReading cX6_faultReading 3 (some .int) ∈ wsL_law := wr_r13 _ (List.mem_of_getElem? (i := 12) rfl)
theorem m_301 : Cond.fieldLink RX6 43 "TankChain$Custom" "statements" "I" ∈ wsL_law := wr_r13 _ (List.mem_of_getElem? (i := 13) rfl)
theorem m_302 : Cond.methodLink RX6 35 yX0_clear ∈ wsL_law := wr_r13 _ (List.mem_of_getElem? (i := 14) rfl)
theorem m_303 : Cond.instanceMethod yX0_clear ∈ wsL_law := wr_r13 _ (List.mem_of_getElem? (i := 15) rfl)
theorem m_304 : Cond.selects RX0 yX0_clear yX0_clear ∈ wsL_law := wr_r13 _ (List.mem_of_getElem? (i := 16) rfl)
theorem m_305 : Cond.code yX0_clear cX0_clear 1 none ∈ wsL_law := wr_r13 _ (List.mem_of_getElem? (i := 17) rfl)
theorem m_306 : Cond.methodLink RX6 40 yX6_nextToken ∈ wsL_law := wr_r13 _ (List.mem_of_getElem? (i := 18) rfl)
theorem m_307 : Cond.instanceMethod yX6_nextToken ∈ wsL_law := wr_r13 _ (List.mem_of_getElem? (i := 19) rfl)
theorem m_308 : Cond.selects RX6 yX6_nextToken yX6_nextToken ∈ wsL_law := wr_r13 _ (List.mem_of_getElem? (i := 20) rfl)
theorem m_309 : Cond.code yX6_nextToken cX6_nextToken 1 none ∈ wsL_law := wr_r13 _ (List.mem_of_getElem? (i := 21) rfl)
theorem m_310 : Cond.methodLink RX6 87 yX6_byteAt ∈ wsL_law := wr_r13 _ (List.mem_of_getElem? (i := 22) rfl)
theorem m_311 : Cond.instanceMethod yX6_byteAt ∈ wsL_law := wr_r13 _ (List.mem_of_getElem? (i := 23) rfl)
theorem wr_r14 : ∀ w ∈ wsL_law_r14, w ∈ wsL_law := fun w h => wr_in w (List.mem_append_right _ (List.mem_append_right _ (List.mem_append_right _ (List.mem_append_right _ (List.mem_append_right _ (List.mem_append_right _ (List.mem_append_right _ (List.mem_append_right _ (List.mem_append_right _ (List.mem_append_right _ (List.mem_append_right _ (List.mem_append_right _ (List.mem_append_right _ (List.mem_append_left _ h))))))))))))))
theorem m_312 : Cond.selects RX6 yX6_byteAt yX6_byteAt ∈ wsL_law := wr_r14 _ (List.mem_of_getElem? (i := 0) rfl)
theorem m_313 : Cond.code yX6_byteAt cX6_byteAt 2 (some .int) ∈ wsL_law := wr_r14 _ (List.mem_of_getElem? (i := 1) rfl)
theorem m_314 : Cond.methodLink RX6 95 yX6_isBlank ∈ wsL_law := wr_r14 _ (List.mem_of_getElem? (i := 2) rfl)
theorem m_315 : Cond.static yX6_isBlank ∈ wsL_law := wr_r14 _ (List.mem_of_getElem? (i := 3) rfl)
theorem m_316 : Cond.code yX6_isBlank cX6_isBlank 1 (some .boolean) ∈ wsL_law := wr_r14 _ (List.mem_of_getElem? (i := 4) rfl)
theorem m_317 : Cond.methodLink RX6 99 yX6_isLetter ∈ wsL_law := wr_r14 _ (List.mem_of_getElem? (i := 5) rfl)
theorem m_318 : Cond.static yX6_isLetter ∈ wsL_law := wr_r14 _ (List.mem_of_getElem? (i := 6) rfl)
theorem m_319 : Cond.code yX6_isLetter cX6_isLetter 1 (some .boolean) ∈ wsL_law := wr_r14 _ (List.mem_of_getElem? (i := 7) rfl)
theorem m_320 : Cond.methodLink RX6 102 yX6_isDigit ∈ wsL_law := wr_r14 _ (List.mem_of_getElem? (i := 8) rfl)
theorem m_321 : Cond.static yX6_isDigit ∈ wsL_law := wr_r14 _ (List.mem_of_getElem? (i := 9) rfl)
theorem m_322 : Cond.code yX6_isDigit cX6_isDigit 1 (some .boolean) ∈ wsL_law := wr_r14 _ (List.mem_of_getElem? (i := 10) rfl)
theorem m_323 : Cond.methodLink RX6 46 yX6_readStatement ∈ wsL_law := wr_r14 _ (List.mem_of_getElem? (i := 11) rfl)
theorem m_324 : Cond.instanceMethod yX6_readStatement ∈ wsL_law := wr_r14 _ (List.mem_of_getElem? (i := 12) rfl)
theorem m_325 : Cond.selects RX6 yX6_readStatement yX6_readStatement ∈ wsL_law := wr_r14 _ (List.mem_of_getElem? (i := 13) rfl)
theorem m_326 : Cond.code yX6_readStatement cX6_readStatement 3 (some .boolean) ∈ wsL_law := wr_r14 _ (List.mem_of_getElem? (i := 14) rfl)
theorem m_327 : Cond.fieldLink RX6 65 "TankChain$Custom" "near" "I" ∈ wsL_law := wr_r14 _ (List.mem_of_getElem? (i := 15) rfl)
theorem m_328 : Cond.fieldLink RX6 69 "TankChain$Custom" "hold" "I" ∈ wsL_law := wr_r14 _ (List.mem_of_getElem? (i := 16) rfl)
theorem m_329 : Cond.fieldLink RX6 73 "TankChain$Custom" "fair" "Z" ∈ wsL_law := wr_r14 _ (List.mem_of_getElem? (i := 17) rfl)
theorem m_330 : Cond.methodLink RX6 52 yX6_isWord ∈ wsL_law := wr_r14 _ (List.mem_of_getElem? (i := 18) rfl)
theorem m_331 : Cond.instanceMethod yX6_isWord ∈ wsL_law := wr_r14 _ (List.mem_of_getElem? (i := 19) rfl)
theorem m_332 : Cond.selects RX6 yX6_isWord yX6_isWord ∈ wsL_law := wr_r14 _ (List.mem_of_getElem? (i := 20) rfl)
theorem m_333 : Cond.code yX6_isWord cX6_isWord 3 (some .boolean) ∈ wsL_law := wr_r14 _ (List.mem_of_getElem? (i := 21) rfl)
theorem m_334 : Cond.methodLink RX6 83 yJ0_length_8abf5 ∈ wsL_law := wr_r14 _ (List.mem_of_getElem? (i := 22) rfl)
theorem m_335 : Cond.instanceMethod yJ0_length_8abf5 ∈ wsL_law := wr_r14 _ (List.mem_of_getElem? (i := 23) rfl)
theorem wr_r15 : ∀ w ∈ wsL_law_r15, w ∈ wsL_law := fun w h => wr_in w (List.mem_append_right _ (List.mem_append_right _ (List.mem_append_right _ (List.mem_append_right _ (List.mem_append_right _ (List.mem_append_right _ (List.mem_append_right _ (List.mem_append_right _ (List.mem_append_right _ (List.mem_append_right _ (List.mem_append_right _ (List.mem_append_right _ (List.mem_append_right _ (List.mem_append_right _ (List.mem_append_left _ h)))))))))))))))
theorem m_336 : Cond.selects RJ0 yJ0_length_8abf5 yJ0_length_8abf5 ∈ wsL_law := wr_r15 _ (List.mem_of_getElem? (i := 0) rfl)
theorem m_337 : Cond.initialized RJ0 ∈ wsL_law := wr_r15 _ (List.mem_of_getElem? (i := 1) rfl)
theorem m_338 : Cond.code yJ0_length_8abf5 cJ0_length_8abf5 1 (some .int) ∈ wsL_law := wr_r15 _ (List.mem_of_getElem? (i := 2) rfl)
theorem m_339 : Cond.fieldLink RJ0 9 "java/lang/String" "value" "[B" ∈ wsL_law := wr_r15 _ (List.mem_of_getElem? (i := 3) rfl)
theorem m_340 : Cond.methodLink RJ0 335 yJ0_coder_7d493 ∈ wsL_law := wr_r15 _ (List.mem_of_getElem? (i := 4) rfl)
theorem m_341 : Cond.instanceMethod yJ0_coder_7d493 ∈ wsL_law := wr_r15 _ (List.mem_of_getElem? (i := 5) rfl)
theorem m_342 : Cond.selects RJ0 yJ0_coder_7d493 yJ0_coder_7d493 ∈ wsL_law := wr_r15 _ (List.mem_of_getElem? (i := 6) rfl)
theorem m_343 : Cond.code yJ0_coder_7d493 cJ0_coder_7d493 1 (some .byte) ∈ wsL_law := wr_r15 _ (List.mem_of_getElem? (i := 7) rfl)
theorem m_344 : Cond.fieldLink RJ0 38 "java/lang/String" "COMPACT_STRINGS" "Z" ∈ wsL_law := wr_r15 _ (List.mem_of_getElem? (i := 8) rfl)
theorem m_345 : Cond.fieldLink RJ0 15 "java/lang/String" "coder" "B" ∈ wsL_law := wr_r15 _ (List.mem_of_getElem? (i := 9) rfl)
theorem m_346 : Cond.methodLink RX6 91 yJ0_charAt_5068e ∈ wsL_law := wr_r15 _ (List.mem_of_getElem? (i := 10) rfl)
theorem m_347 : Cond.instanceMethod yJ0_charAt_5068e ∈ wsL_law := wr_r15 _ (List.mem_of_getElem? (i := 11) rfl)
theorem m_348 : Cond.selects RJ0 yJ0_charAt_5068e yJ0_charAt_5068e ∈ wsL_law := wr_r15 _ (List.mem_of_getElem? (i := 12) rfl)
theorem m_349 : Cond.code yJ0_charAt_5068e cJ0_charAt_5068e 2 (some .char) ∈ wsL_law := wr_r15 _ (List.mem_of_getElem? (i := 13) rfl)
theorem m_350 : Cond.methodLink RJ0 492 yJ0_isLatin1_aae02 ∈ wsL_law := wr_r15 _ (List.mem_of_getElem? (i := 14) rfl)
theorem m_351 : Cond.instanceMethod yJ0_isLatin1_aae02 ∈ wsL_law := wr_r15 _ (List.mem_of_getElem? (i := 15) rfl)
theorem m_352 : Cond.selects RJ0 yJ0_isLatin1_aae02 yJ0_isLatin1_aae02 ∈ wsL_law := wr_r15 _ (List.mem_of_getElem? (i := 16) rfl)
theorem m_353 : Cond.code yJ0_isLatin1_aae02 cJ0_isLatin1_aae02 1 (some .boolean) ∈ wsL_law := wr_r15 _ (List.mem_of_getElem? (i := 17) rfl)
theorem m_354 : Cond.methodLink RJ0 495 yJ1_charAt_3b067 ∈ wsL_law := wr_r15 _ (List.mem_of_getElem? (i := 18) rfl)
theorem m_355 : Cond.static yJ1_charAt_3b067 ∈ wsL_law := wr_r15 _ (List.mem_of_getElem? (i := 19) rfl)
theorem m_356 : Cond.initialized RJ1 ∈ wsL_law := wr_r15 _ (List.mem_of_getElem? (i := 20) rfl)
theorem m_357 : Cond.code yJ1_charAt_3b067 cJ1_charAt_3b067 2 (some .char) ∈ wsL_law := wr_r15 _ (List.mem_of_getElem? (i := 21) rfl)
theorem m_358 : Cond.methodLink RJ1 9 yJ0_checkIndex_df160 ∈ wsL_law := wr_r15 _ (List.mem_of_getElem? (i := 22) rfl)
theorem m_359 : Cond.static yJ0_checkIndex_df160 ∈ wsL_law := wr_r15 _ (List.mem_of_getElem? (i := 23) rfl)
theorem wr_r16 : ∀ w ∈ wsL_law_r16, w ∈ wsL_law := fun w h => wr_in w (List.mem_append_right _ (List.mem_append_right _ (List.mem_append_right _ (List.mem_append_right _ (List.mem_append_right _ (List.mem_append_right _ (List.mem_append_right _ (List.mem_append_right _ (List.mem_append_right _ (List.mem_append_right _ (List.mem_append_right _ (List.mem_append_right _ (List.mem_append_right _ (List.mem_append_right _ (List.mem_append_right _ (List.mem_append_left _ h))))))))))))))))
theorem m_360 : Cond.code yJ0_checkIndex_df160 cJ0_checkIndex_df160 2 none ∈ wsL_law := wr_r16 _ (List.mem_of_getElem? (i := 0) rfl)
theorem m_361 : Cond.fieldLink RJ0 1053 "jdk/internal/util/Preconditions" "SIOOBE_FORMATTER" "Ljava/util/function/BiFunction;" ∈ wsL_law := wr_r16 _ (List.mem_of_getElem? (i := 1) rfl)
theorem m_362 : Cond.methodLink RJ0 1059 yJ3_checkIndex_8e157 ∈ wsL_law := wr_r16 _ (List.mem_of_getElem? (i := 2) rfl)
theorem m_363 : Cond.static yJ3_checkIndex_8e157 ∈ wsL_law := wr_r16 _ (List.mem_of_getElem? (i := 3) rfl)
theorem m_364 : Cond.initialized RJ3 ∈ wsL_law := wr_r16 _ (List.mem_of_getElem? (i := 4) rfl)
theorem m_365 : Cond.code yJ3_checkIndex_8e157 cJ3_checkIndex_8e157 3 (some .int) ∈ wsL_law := wr_r16 _ (List.mem_of_getElem? (i := 5) rfl)
theorem m_383 : Cond.methodLink RX6 56 yX6_readFirst ∈ wsL_law := wr_r16 _ (List.mem_of_getElem? (i := 23) rfl)
theorem wr_r17 : ∀ w ∈ wsL_law_r17, w ∈ wsL_law := fun w h => wr_in w (List.mem_append_right _ (List.mem_append_right _ (List.mem_append_right _ (List.mem_append_right _ (List.mem_append_right _ (List.mem_append_right _ (List.mem_append_right _ (List.mem_append_right _ (List.mem_append_right _ (List.mem_append_right _ (List.mem_append_right _ (List.mem_append_right _ (List.mem_append_right _ (List.mem_append_right _ (List.mem_append_right _ (List.mem_append_right _ (List.mem_append_left _ h)))))))))))))))))
theorem m_384 : Cond.instanceMethod yX6_readFirst ∈ wsL_law := wr_r17 _ (List.mem_of_getElem? (i := 0) rfl)
theorem m_385 : Cond.selects RX6 yX6_readFirst yX6_readFirst ∈ wsL_law := wr_r17 _ (List.mem_of_getElem? (i := 1) rfl)
theorem m_386 : Cond.code yX6_readFirst cX6_readFirst 2 (some .boolean) ∈ wsL_law := wr_r17 _ (List.mem_of_getElem? (i := 2) rfl)
theorem m_387 : Cond.methodLink RX6 78 yX0_addFirst ∈ wsL_law := wr_r17 _ (List.mem_of_getElem? (i := 3) rfl)
theorem m_388 : Cond.instanceMethod yX0_addFirst ∈ wsL_law := wr_r17 _ (List.mem_of_getElem? (i := 4) rfl)
theorem m_389 : Cond.selects RX0 yX0_addFirst yX0_addFirst ∈ wsL_law := wr_r17 _ (List.mem_of_getElem? (i := 5) rfl)
theorem m_390 : Cond.code yX0_addFirst cX0_addFirst 2 none ∈ wsL_law := wr_r17 _ (List.mem_of_getElem? (i := 6) rfl)
theorem m_391 : Cond.methodLink RX6 61 yX6_numberHere ∈ wsL_law := wr_r17 _ (List.mem_of_getElem? (i := 7) rfl)
theorem m_392 : Cond.instanceMethod yX6_numberHere ∈ wsL_law := wr_r17 _ (List.mem_of_getElem? (i := 8) rfl)
theorem m_393 : Cond.selects RX6 yX6_numberHere yX6_numberHere ∈ wsL_law := wr_r17 _ (List.mem_of_getElem? (i := 9) rfl)
theorem m_394 : Cond.code yX6_numberHere cX6_numberHere 3 (some .int) ∈ wsL_law := wr_r17 _ (List.mem_of_getElem? (i := 10) rfl)
theorem m_395 : Cond.methodLink RX7 149 yX0_becomeAs ∈ wsL_law := wr_r17 _ (List.mem_of_getElem? (i := 11) rfl)
theorem m_396 : Cond.instanceMethod yX0_becomeAs ∈ wsL_law := wr_r17 _ (List.mem_of_getElem? (i := 12) rfl)
theorem m_397 : Cond.selects RX0 yX0_becomeAs yX0_becomeAs ∈ wsL_law := wr_r17 _ (List.mem_of_getElem? (i := 13) rfl)
theorem m_398 : Cond.code yX0_becomeAs cX0_becomeAs 3 none ∈ wsL_law := wr_r17 _ (List.mem_of_getElem? (i := 14) rfl)
theorem m_399 : Cond.methodLink RX0 32 yX0_clear ∈ wsL_law := wr_r17 _ (List.mem_of_getElem? (i := 15) rfl)
theorem m_400 : Cond.methodLink RX0 35 yX0_addFirst ∈ wsL_law := wr_r17 _ (List.mem_of_getElem? (i := 16) rfl)
theorem m_401 : Cond.methodLink RX7 153 yX7_orderAnew ∈ wsL_law := wr_r17 _ (List.mem_of_getElem? (i := 17) rfl)
theorem m_402 : Cond.instanceMethod yX7_orderAnew ∈ wsL_law := wr_r17 _ (List.mem_of_getElem? (i := 18) rfl)
theorem m_403 : Cond.selects RX7 yX7_orderAnew yX7_orderAnew ∈ wsL_law := wr_r17 _ (List.mem_of_getElem? (i := 19) rfl)
theorem m_404 : Cond.code yX7_orderAnew cX7_orderAnew 4 none ∈ wsL_law := wr_r17 _ (List.mem_of_getElem? (i := 20) rfl)
theorem m_405 : Cond.fieldLink RX7 267 "TankChain$Flow" "head" "LTankChain$Tank;" ∈ wsL_law := wr_r17 _ (List.mem_of_getElem? (i := 21) rfl)
theorem m_406 : Cond.fieldLink RX7 225 "TankChain$Tank" "firstField" "LTankChain$Field;" ∈ wsL_law := wr_r17 _ (List.mem_of_getElem? (i := 22) rfl)
theorem m_407 : Cond.fieldLink RX7 271 "TankChain$Tank" "below" "LTankChain$Tank;" ∈ wsL_law := wr_r17 _ (List.mem_of_getElem? (i := 23) rfl)
theorem wr_r18 : ∀ w ∈ wsL_law_r18, w ∈ wsL_law := fun w h => wr_in w (List.mem_append_right _ (List.mem_append_right _ (List.mem_append_right _ (List.mem_append_right _ (List.mem_append_right _ (List.mem_append_right _ (List.mem_append_right _ (List.mem_append_right _ (List.mem_append_right _ (List.mem_append_right _ (List.mem_append_right _ (List.mem_append_right _ (List.mem_append_right _ (List.mem_append_right _ (List.mem_append_right _ (List.mem_append_right _ (List.mem_append_right _ (List.mem_append_left _ h))))))))))))))))))
theorem m_408 : Cond.fieldLink RX7 201 "TankChain$Field" "tank" "I" ∈ wsL_law := wr_r18 _ (List.mem_of_getElem? (i := 0) rfl)
theorem m_409 : Cond.methodLink RX7 197 yX7_fieldAt ∈ wsL_law := wr_r18 _ (List.mem_of_getElem? (i := 1) rfl)
theorem m_410 : Cond.instanceMethod yX7_fieldAt ∈ wsL_law := wr_r18 _ (List.mem_of_getElem? (i := 2) rfl)
theorem m_411 : Cond.selects RX7 yX7_fieldAt yX7_fieldAt ∈ wsL_law := wr_r18 _ (List.mem_of_getElem? (i := 3) rfl)
theorem m_412 : Cond.code yX7_fieldAt cX7_fieldAt 2 (some (.object "TankChain$Field")) ∈ wsL_law := wr_r18 _ (List.mem_of_getElem? (i := 4) rfl)
theorem m_413 : Cond.methodLink RL 58 yX8_custom_ ∈ wsL_law := wr_r18 _ (List.mem_of_getElem? (i := 5) rfl)
theorem m_414 : Cond.instanceMethod yX8_custom_ ∈ wsL_law := wr_r18 _ (List.mem_of_getElem? (i := 6) rfl)
theorem m_415 : Cond.selects RX8 yX8_custom_ yX8_custom_ ∈ wsL_law := wr_r18 _ (List.mem_of_getElem? (i := 7) rfl)
theorem m_416 : Cond.code yX8_custom_ cX8_custom_ 5 (some .int) ∈ wsL_law := wr_r18 _ (List.mem_of_getElem? (i := 8) rfl)
theorem m_417 : Cond.fieldLink RX8 156 "TankChainModel" "end" "I" ∈ wsL_law := wr_r18 _ (List.mem_of_getElem? (i := 9) rfl)
theorem m_418 : Cond.fieldLink RX8 153 "TankChainModel" "place" "I" ∈ wsL_law := wr_r18 _ (List.mem_of_getElem? (i := 10) rfl)
theorem m_419 : Cond.fieldLink RX8 142 "TankChainModel" "hasCustom" "Z" ∈ wsL_law := wr_r18 _ (List.mem_of_getElem? (i := 11) rfl)
theorem m_420 : Cond.methodLink RX8 159 yX8_blanks ∈ wsL_law := wr_r18 _ (List.mem_of_getElem? (i := 12) rfl)
theorem m_421 : Cond.instanceMethod yX8_blanks ∈ wsL_law := wr_r18 _ (List.mem_of_getElem? (i := 13) rfl)
theorem m_422 : Cond.selects RX8 yX8_blanks yX8_blanks ∈ wsL_law := wr_r18 _ (List.mem_of_getElem? (i := 14) rfl)
theorem m_423 : Cond.code yX8_blanks cX8_blanks 1 none ∈ wsL_law := wr_r18 _ (List.mem_of_getElem? (i := 15) rfl)
theorem m_424 : Cond.methodLink RX8 192 yX8_statement ∈ wsL_law := wr_r18 _ (List.mem_of_getElem? (i := 16) rfl)
theorem m_425 : Cond.instanceMethod yX8_statement ∈ wsL_law := wr_r18 _ (List.mem_of_getElem? (i := 17) rfl)
theorem m_426 : Cond.selects RX8 yX8_statement yX8_statement ∈ wsL_law := wr_r18 _ (List.mem_of_getElem? (i := 18) rfl)
theorem m_427 : Cond.code yX8_statement cX8_statement 2 (some .boolean) ∈ wsL_law := wr_r18 _ (List.mem_of_getElem? (i := 19) rfl)
theorem m_428 : Cond.constantLong RX8 172 (439855772532) ∈ wsL_law := wr_r18 _ (List.mem_of_getElem? (i := 20) rfl)
theorem m_429 : Cond.constantLong RX8 178 (127978976603237) ∈ wsL_law := wr_r18 _ (List.mem_of_getElem? (i := 21) rfl)
theorem m_430 : Cond.constantLong RX8 180 (495756340332) ∈ wsL_law := wr_r18 _ (List.mem_of_getElem? (i := 22) rfl)
theorem m_431 : Cond.constantLong RX8 182 (1852137842) ∈ wsL_law := wr_r18 _ (List.mem_of_getElem? (i := 23) rfl)
theorem wr_r19 : ∀ w ∈ wsL_law_r19, w ∈ wsL_law := fun w h => wr_in w (List.mem_append_right _ (List.mem_append_right _ (List.mem_append_right _ (List.mem_append_right _ (List.mem_append_right _ (List.mem_append_right _ (List.mem_append_right _ (List.mem_append_right _ (List.mem_append_right _ (List.mem_append_right _ (List.mem_append_right _ (List.mem_append_right _ (List.mem_append_right _ (List.mem_append_right _ (List.mem_append_right _ (List.mem_append_right _ (List.mem_append_right _ (List.mem_append_right _ (List.mem_append_left _ h)))))))))))))))))))
theorem m_432 : Cond.fieldLink RX8 169 "TankChainModel" "number" "I" ∈ wsL_law := wr_r19 _ (List.mem_of_getElem? (i := 0) rfl)
theorem m_433 : Cond.constantLong RX8 188 (1752132708) ∈ wsL_law := wr_r19 _ (List.mem_of_getElem? (i := 1) rfl)
theorem m_434 : Cond.constantLong RX8 190 (1717660018) ∈ wsL_law := wr_r19 _ (List.mem_of_getElem? (i := 2) rfl)
theorem m_435 : Cond.methodLink RX8 174 yX8_takes ∈ wsL_law := wr_r19 _ (List.mem_of_getElem? (i := 3) rfl)
theorem m_436 : Cond.instanceMethod yX8_takes ∈ wsL_law := wr_r19 _ (List.mem_of_getElem? (i := 4) rfl)
theorem m_437 : Cond.selects RX8 yX8_takes yX8_takes ∈ wsL_law := wr_r19 _ (List.mem_of_getElem? (i := 5) rfl)
theorem m_438 : Cond.code yX8_takes cX8_takes 3 (some .boolean) ∈ wsL_law := wr_r19 _ (List.mem_of_getElem? (i := 6) rfl)
theorem m_439 : Cond.fieldLink RX8 162 "TankChainModel" "wordEnd" "I" ∈ wsL_law := wr_r19 _ (List.mem_of_getElem? (i := 7) rfl)
theorem m_440 : Cond.methodLink RX8 165 yX8_word ∈ wsL_law := wr_r19 _ (List.mem_of_getElem? (i := 8) rfl)
theorem m_441 : Cond.instanceMethod yX8_word ∈ wsL_law := wr_r19 _ (List.mem_of_getElem? (i := 9) rfl)
theorem m_442 : Cond.selects RX8 yX8_word yX8_word ∈ wsL_law := wr_r19 _ (List.mem_of_getElem? (i := 10) rfl)
theorem m_443 : Cond.code yX8_word cX8_word 3 (some .long) ∈ wsL_law := wr_r19 _ (List.mem_of_getElem? (i := 11) rfl)
theorem m_444 : Cond.methodLink RX8 184 yX8_takesNumber ∈ wsL_law := wr_r19 _ (List.mem_of_getElem? (i := 12) rfl)
theorem m_445 : Cond.instanceMethod yX8_takesNumber ∈ wsL_law := wr_r19 _ (List.mem_of_getElem? (i := 13) rfl)
theorem m_446 : Cond.selects RX8 yX8_takesNumber yX8_takesNumber ∈ wsL_law := wr_r19 _ (List.mem_of_getElem? (i := 14) rfl)
theorem m_447 : Cond.code yX8_takesNumber cX8_takesNumber 2 (some .boolean) ∈ wsL_law := wr_r19 _ (List.mem_of_getElem? (i := 15) rfl)
theorem m_448 : Cond.methodLink RL 59 yX7_fault ∈ wsL_law := wr_r19 _ (List.mem_of_getElem? (i := 16) rfl)
theorem m_449 : Cond.instanceMethod yX7_fault ∈ wsL_law := wr_r19 _ (List.mem_of_getElem? (i := 17) rfl)
theorem m_450 : Cond.selects RX7 yX7_fault yX7_fault ∈ wsL_law := wr_r19 _ (List.mem_of_getElem? (i := 18) rfl)
theorem m_451 : Cond.code yX7_fault cX7_fault 1 (some .int) ∈ wsL_law := wr_r19 _ (List.mem_of_getElem? (i := 19) rfl)
theorem m_452 : Cond.methodLink RL 63 yX8_fault ∈ wsL_law := wr_r19 _ (List.mem_of_getElem? (i := 20) rfl)
theorem m_453 : Cond.instanceMethod yX8_fault ∈ wsL_law := wr_r19 _ (List.mem_of_getElem? (i := 21) rfl)
theorem m_454 : Cond.selects RX8 yX8_fault yX8_fault ∈ wsL_law := wr_r19 _ (List.mem_of_getElem? (i := 22) rfl)
theorem m_455 : Cond.code yX8_fault cX8_fault 1 (some .int) ∈ wsL_law := wr_r19 _ (List.mem_of_getElem? (i := 23) rfl)
theorem wr_r20 : ∀ w ∈ wsL_law_r20, w ∈ wsL_law := fun w h => wr_in w (List.mem_append_right _ (List.mem_append_right _ (List.mem_append_right _ (List.mem_append_right _ (List.mem_append_right _ (List.mem_append_right _ (List.mem_append_right _ (List.mem_append_right _ (List.mem_append_right _ (List.mem_append_right _ (List.mem_append_right _ (List.mem_append_right _ (List.mem_append_right _ (List.mem_append_right _ (List.mem_append_right _ (List.mem_append_right _ (List.mem_append_right _ (List.mem_append_right _ (List.mem_append_right _ (List.mem_append_left _ h))))))))))))))))))))
theorem m_456 : Cond.methodLink RL 64 yX7_day ∈ wsL_law := wr_r20 _ (List.mem_of_getElem? (i := 0) rfl)
theorem m_457 : Cond.instanceMethod yX7_day ∈ wsL_law := wr_r20 _ (List.mem_of_getElem? (i := 1) rfl)
theorem m_458 : Cond.selects RX7 yX7_day yX7_day ∈ wsL_law := wr_r20 _ (List.mem_of_getElem? (i := 2) rfl)
theorem m_459 : Cond.code yX7_day cX7_day 3 (some .int) ∈ wsL_law := wr_r20 _ (List.mem_of_getElem? (i := 3) rfl)
theorem m_460 : Cond.fieldLink RX7 174 "TankChain$Flow" "sums" "LTankChain$Sums;" ∈ wsL_law := wr_r20 _ (List.mem_of_getElem? (i := 4) rfl)
theorem m_461 : Cond.methodLink RX7 159 yX7_addSilt ∈ wsL_law := wr_r20 _ (List.mem_of_getElem? (i := 5) rfl)
theorem m_462 : Cond.instanceMethod yX7_addSilt ∈ wsL_law := wr_r20 _ (List.mem_of_getElem? (i := 6) rfl)
theorem m_463 : Cond.selects RX7 yX7_addSilt yX7_addSilt ∈ wsL_law := wr_r20 _ (List.mem_of_getElem? (i := 7) rfl)
theorem m_464 : Cond.code yX7_addSilt cX7_addSilt 2 none ∈ wsL_law := wr_r20 _ (List.mem_of_getElem? (i := 8) rfl)
theorem m_465 : Cond.methodLink RX7 162 yX2_startFromNow ∈ wsL_law := wr_r20 _ (List.mem_of_getElem? (i := 9) rfl)
theorem m_466 : Cond.instanceMethod yX2_startFromNow ∈ wsL_law := wr_r20 _ (List.mem_of_getElem? (i := 10) rfl)
theorem m_467 : Cond.selects RX2 yX2_startFromNow yX2_startFromNow ∈ wsL_law := wr_r20 _ (List.mem_of_getElem? (i := 11) rfl)
theorem m_468 : Cond.code yX2_startFromNow cX2_startFromNow 2 none ∈ wsL_law := wr_r20 _ (List.mem_of_getElem? (i := 12) rfl)
theorem m_469 : Cond.fieldLink RX2 30 "TankChain$Tank" "after" "LTankChain$Pool;" ∈ wsL_law := wr_r20 _ (List.mem_of_getElem? (i := 13) rfl)
theorem m_470 : Cond.fieldLink RX2 36 "TankChain$Tank" "now" "LTankChain$Pool;" ∈ wsL_law := wr_r20 _ (List.mem_of_getElem? (i := 14) rfl)
theorem m_471 : Cond.fieldLink RX2 45 "TankChain$Tank" "below" "LTankChain$Tank;" ∈ wsL_law := wr_r20 _ (List.mem_of_getElem? (i := 15) rfl)
theorem m_472 : Cond.methodLink RX2 39 yX3_becomeAs ∈ wsL_law := wr_r20 _ (List.mem_of_getElem? (i := 16) rfl)
theorem m_473 : Cond.instanceMethod yX3_becomeAs ∈ wsL_law := wr_r20 _ (List.mem_of_getElem? (i := 17) rfl)
theorem m_474 : Cond.selects RX3 yX3_becomeAs yX3_becomeAs ∈ wsL_law := wr_r20 _ (List.mem_of_getElem? (i := 18) rfl)
theorem m_475 : Cond.code yX3_becomeAs cX3_becomeAs 2 none ∈ wsL_law := wr_r20 _ (List.mem_of_getElem? (i := 19) rfl)
theorem m_476 : Cond.methodLink RX7 165 yX2_passDay ∈ wsL_law := wr_r20 _ (List.mem_of_getElem? (i := 20) rfl)
theorem m_477 : Cond.instanceMethod yX2_passDay ∈ wsL_law := wr_r20 _ (List.mem_of_getElem? (i := 21) rfl)
theorem m_478 : Cond.selects RX2 yX2_passDay yX2_passDay ∈ wsL_law := wr_r20 _ (List.mem_of_getElem? (i := 22) rfl)
theorem m_479 : Cond.code yX2_passDay cX2_passDay 4 none ∈ wsL_law := wr_r20 _ (List.mem_of_getElem? (i := 23) rfl)
theorem wr_r21 : ∀ w ∈ wsL_law_r21, w ∈ wsL_law := fun w h => wr_in w (List.mem_append_right _ (List.mem_append_right _ (List.mem_append_right _ (List.mem_append_right _ (List.mem_append_right _ (List.mem_append_right _ (List.mem_append_right _ (List.mem_append_right _ (List.mem_append_right _ (List.mem_append_right _ (List.mem_append_right _ (List.mem_append_right _ (List.mem_append_right _ (List.mem_append_right _ (List.mem_append_right _ (List.mem_append_right _ (List.mem_append_right _ (List.mem_append_right _ (List.mem_append_right _ (List.mem_append_right _ (List.mem_append_left _ h)))))))))))))))))))))
theorem m_480 : Cond.fieldLink RX2 51 "TankChain$Tank" "catches" "I" ∈ wsL_law := wr_r21 _ (List.mem_of_getElem? (i := 0) rfl)
theorem m_481 : Cond.fieldLink RX2 58 "TankChain$Sums" "out" "I" ∈ wsL_law := wr_r21 _ (List.mem_of_getElem? (i := 1) rfl)
theorem m_482 : Cond.methodLink RX2 48 yX4_clear ∈ wsL_law := wr_r21 _ (List.mem_of_getElem? (i := 2) rfl)
theorem m_483 : Cond.instanceMethod yX4_clear ∈ wsL_law := wr_r21 _ (List.mem_of_getElem? (i := 3) rfl)
theorem m_484 : Cond.selects RX4 yX4_clear yX4_clear ∈ wsL_law := wr_r21 _ (List.mem_of_getElem? (i := 4) rfl)
theorem m_485 : Cond.code yX4_clear cX4_clear 1 none ∈ wsL_law := wr_r21 _ (List.mem_of_getElem? (i := 5) rfl)
theorem m_486 : Cond.methodLink RX2 54 yX2_sentDown ∈ wsL_law := wr_r21 _ (List.mem_of_getElem? (i := 6) rfl)
theorem m_487 : Cond.instanceMethod yX2_sentDown ∈ wsL_law := wr_r21 _ (List.mem_of_getElem? (i := 7) rfl)
theorem m_488 : Cond.selects RX2 yX2_sentDown yX2_sentDown ∈ wsL_law := wr_r21 _ (List.mem_of_getElem? (i := 8) rfl)
theorem m_489 : Cond.code yX2_sentDown cX2_sentDown 10 (some .int) ∈ wsL_law := wr_r21 _ (List.mem_of_getElem? (i := 9) rfl)
theorem m_490 : Cond.fieldLink RX2 61 "TankChain$Pool" "water" "I" ∈ wsL_law := wr_r21 _ (List.mem_of_getElem? (i := 10) rfl)
theorem m_491 : Cond.fieldLink RX2 68 "TankChain$Pool" "breached" "Z" ∈ wsL_law := wr_r21 _ (List.mem_of_getElem? (i := 11) rfl)
theorem m_492 : Cond.methodLink RX2 76 Lib.Math.max.name ∈ wsL_law := wr_r21 _ (List.mem_of_getElem? (i := 12) rfl)
theorem m_493 : Cond.fieldLink RX2 82 "TankChain$Tank" "bank" "I" ∈ wsL_law := wr_r21 _ (List.mem_of_getElem? (i := 13) rfl)
theorem m_494 : Cond.fieldLink RX2 85 "TankChain$Pool" "taken" "I" ∈ wsL_law := wr_r21 _ (List.mem_of_getElem? (i := 14) rfl)
theorem m_495 : Cond.fieldLink RX2 88 "TankChain$Pool" "spilt" "I" ∈ wsL_law := wr_r21 _ (List.mem_of_getElem? (i := 15) rfl)
theorem m_496 : Cond.fieldLink RX2 91 "TankChain$Sums" "rained" "I" ∈ wsL_law := wr_r21 _ (List.mem_of_getElem? (i := 16) rfl)
theorem m_497 : Cond.fieldLink RX2 94 "TankChain$Sums" "seeped" "I" ∈ wsL_law := wr_r21 _ (List.mem_of_getElem? (i := 17) rfl)
theorem m_498 : Cond.fieldLink RX2 97 "TankChain$Sums" "kept" "I" ∈ wsL_law := wr_r21 _ (List.mem_of_getElem? (i := 18) rfl)
theorem m_499 : Cond.methodLink RX2 64 yX2_takenByFields ∈ wsL_law := wr_r21 _ (List.mem_of_getElem? (i := 19) rfl)
theorem m_500 : Cond.instanceMethod yX2_takenByFields ∈ wsL_law := wr_r21 _ (List.mem_of_getElem? (i := 20) rfl)
theorem m_501 : Cond.selects RX2 yX2_takenByFields yX2_takenByFields ∈ wsL_law := wr_r21 _ (List.mem_of_getElem? (i := 21) rfl)
theorem m_502 : Cond.code yX2_takenByFields cX2_takenByFields 9 (some .int) ∈ wsL_law := wr_r21 _ (List.mem_of_getElem? (i := 22) rfl)
theorem m_503 : Cond.fieldLink RX2 100 "TankChain$Tank" "size" "I" ∈ wsL_law := wr_r21 _ (List.mem_of_getElem? (i := 23) rfl)
theorem wr_r22 : ∀ w ∈ wsL_law_r22, w ∈ wsL_law := fun w h => wr_in w (List.mem_append_right _ (List.mem_append_right _ (List.mem_append_right _ (List.mem_append_right _ (List.mem_append_right _ (List.mem_append_right _ (List.mem_append_right _ (List.mem_append_right _ (List.mem_append_right _ (List.mem_append_right _ (List.mem_append_right _ (List.mem_append_right _ (List.mem_append_right _ (List.mem_append_right _ (List.mem_append_right _ (List.mem_append_right _ (List.mem_append_right _ (List.mem_append_right _ (List.mem_append_right _ (List.mem_append_right _ (List.mem_append_right _ (List.mem_append_left _ h))))))))))))))))))))))
theorem m_504 : Cond.fieldLink RX2 103 "TankChain$Custom" "hold" "I" ∈ wsL_law := wr_r22 _ (List.mem_of_getElem? (i := 0) rfl)
theorem m_505 : Cond.fieldLink RX2 108 "TankChain$Pool" "opening" "I" ∈ wsL_law := wr_r22 _ (List.mem_of_getElem? (i := 1) rfl)
theorem m_506 : Cond.methodLink RX2 111 Lib.Math.min.name ∈ wsL_law := wr_r22 _ (List.mem_of_getElem? (i := 2) rfl)
theorem m_507 : Cond.fieldLink RX2 118 "TankChain$Custom" "near" "I" ∈ wsL_law := wr_r22 _ (List.mem_of_getElem? (i := 3) rfl)
theorem m_508 : Cond.fieldLink RX2 124 "TankChain$Custom" "fair" "Z" ∈ wsL_law := wr_r22 _ (List.mem_of_getElem? (i := 4) rfl)
theorem m_509 : Cond.fieldLink RX2 135 "TankChain$Tank" "firstField" "LTankChain$Field;" ∈ wsL_law := wr_r22 _ (List.mem_of_getElem? (i := 5) rfl)
theorem m_510 : Cond.fieldLink RX2 139 "TankChain$Field" "share" "I" ∈ wsL_law := wr_r22 _ (List.mem_of_getElem? (i := 6) rfl)
theorem m_511 : Cond.fieldLink RX2 148 "TankChain$Field" "area" "I" ∈ wsL_law := wr_r22 _ (List.mem_of_getElem? (i := 7) rfl)
theorem m_512 : Cond.fieldLink RX2 151 "TankChain$Field" "next" "LTankChain$Field;" ∈ wsL_law := wr_r22 _ (List.mem_of_getElem? (i := 8) rfl)
theorem m_513 : Cond.methodLink RX2 114 yX5_isBadYearWith ∈ wsL_law := wr_r22 _ (List.mem_of_getElem? (i := 9) rfl)
theorem m_514 : Cond.instanceMethod yX5_isBadYearWith ∈ wsL_law := wr_r22 _ (List.mem_of_getElem? (i := 10) rfl)
theorem m_515 : Cond.selects RX5 yX5_isBadYearWith yX5_isBadYearWith ∈ wsL_law := wr_r22 _ (List.mem_of_getElem? (i := 11) rfl)
theorem m_516 : Cond.code yX5_isBadYearWith cX5_isBadYearWith 2 (some .boolean) ∈ wsL_law := wr_r22 _ (List.mem_of_getElem? (i := 12) rfl)
theorem m_517 : Cond.methodLink RX2 121 yX2_areasWithin ∈ wsL_law := wr_r22 _ (List.mem_of_getElem? (i := 13) rfl)
theorem m_518 : Cond.static yX2_areasWithin ∈ wsL_law := wr_r22 _ (List.mem_of_getElem? (i := 14) rfl)
theorem m_519 : Cond.code yX2_areasWithin cX2_areasWithin 4 (some .int) ∈ wsL_law := wr_r22 _ (List.mem_of_getElem? (i := 15) rfl)
theorem m_520 : Cond.fieldLink RX2 154 "TankChain$Field" "far" "I" ∈ wsL_law := wr_r22 _ (List.mem_of_getElem? (i := 16) rfl)
theorem m_521 : Cond.methodLink RX2 127 yX2_shareFairly ∈ wsL_law := wr_r22 _ (List.mem_of_getElem? (i := 17) rfl)
theorem m_522 : Cond.static yX2_shareFairly ∈ wsL_law := wr_r22 _ (List.mem_of_getElem? (i := 18) rfl)
theorem m_523 : Cond.code yX2_shareFairly cX2_shareFairly 7 none ∈ wsL_law := wr_r22 _ (List.mem_of_getElem? (i := 19) rfl)
theorem m_524 : Cond.fieldLink RX2 157 "TankChain$Field" "remainder" "I" ∈ wsL_law := wr_r22 _ (List.mem_of_getElem? (i := 20) rfl)
theorem m_525 : Cond.methodLink RX2 160 yX2_giveOneMore ∈ wsL_law := wr_r22 _ (List.mem_of_getElem? (i := 21) rfl)
theorem m_526 : Cond.static yX2_giveOneMore ∈ wsL_law := wr_r22 _ (List.mem_of_getElem? (i := 22) rfl)
theorem m_527 : Cond.code yX2_giveOneMore cX2_giveOneMore 4 none ∈ wsL_law := wr_r22 _ (List.mem_of_getElem? (i := 23) rfl)
theorem wr_r23 : ∀ w ∈ wsL_law_r23, w ∈ wsL_law := fun w h => wr_in w (List.mem_append_right _ (List.mem_append_right _ (List.mem_append_right _ (List.mem_append_right _ (List.mem_append_right _ (List.mem_append_right _ (List.mem_append_right _ (List.mem_append_right _ (List.mem_append_right _ (List.mem_append_right _ (List.mem_append_right _ (List.mem_append_right _ (List.mem_append_right _ (List.mem_append_right _ (List.mem_append_right _ (List.mem_append_right _ (List.mem_append_right _ (List.mem_append_right _ (List.mem_append_right _ (List.mem_append_right _ (List.mem_append_right _ (List.mem_append_right _ (List.mem_append_left _ h)))))))))))))))))))))))
theorem m_528 : Cond.methodLink RX2 131 yX2_shareInOrder ∈ wsL_law := wr_r23 _ (List.mem_of_getElem? (i := 0) rfl)
theorem m_529 : Cond.static yX2_shareInOrder ∈ wsL_law := wr_r23 _ (List.mem_of_getElem? (i := 1) rfl)
theorem m_530 : Cond.code yX2_shareInOrder cX2_shareInOrder 5 none ∈ wsL_law := wr_r23 _ (List.mem_of_getElem? (i := 2) rfl)
theorem m_531 : Cond.methodLink RX2 144 yX1_isFed ∈ wsL_law := wr_r23 _ (List.mem_of_getElem? (i := 3) rfl)
theorem m_532 : Cond.instanceMethod yX1_isFed ∈ wsL_law := wr_r23 _ (List.mem_of_getElem? (i := 4) rfl)
theorem m_533 : Cond.selects RX1 yX1_isFed yX1_isFed ∈ wsL_law := wr_r23 _ (List.mem_of_getElem? (i := 5) rfl)
theorem m_534 : Cond.code yX1_isFed cX1_isFed 1 (some .boolean) ∈ wsL_law := wr_r23 _ (List.mem_of_getElem? (i := 6) rfl)
theorem m_535 : Cond.methodLink RX2 72 yX5_roomIf ∈ wsL_law := wr_r23 _ (List.mem_of_getElem? (i := 7) rfl)
theorem m_536 : Cond.methodLink RX7 168 yX7_keepTanks ∈ wsL_law := wr_r23 _ (List.mem_of_getElem? (i := 8) rfl)
theorem m_537 : Cond.instanceMethod yX7_keepTanks ∈ wsL_law := wr_r23 _ (List.mem_of_getElem? (i := 9) rfl)
theorem m_538 : Cond.selects RX7 yX7_keepTanks yX7_keepTanks ∈ wsL_law := wr_r23 _ (List.mem_of_getElem? (i := 10) rfl)
theorem m_539 : Cond.code yX7_keepTanks cX7_keepTanks 4 none ∈ wsL_law := wr_r23 _ (List.mem_of_getElem? (i := 11) rfl)
theorem m_540 : Cond.fieldLink RX7 274 "TankChain$Tank" "after" "LTankChain$Pool;" ∈ wsL_law := wr_r23 _ (List.mem_of_getElem? (i := 12) rfl)
theorem m_541 : Cond.fieldLink RX7 190 "TankChain$Tank" "breachedOn" "I" ∈ wsL_law := wr_r23 _ (List.mem_of_getElem? (i := 13) rfl)
theorem m_542 : Cond.fieldLink RX7 277 "TankChain$Tank" "number" "I" ∈ wsL_law := wr_r23 _ (List.mem_of_getElem? (i := 14) rfl)
theorem m_543 : Cond.methodLink RX7 278 yX3_becomeAs ∈ wsL_law := wr_r23 _ (List.mem_of_getElem? (i := 15) rfl)
theorem m_544 : Cond.methodLink RX7 171 yX7_keepFields ∈ wsL_law := wr_r23 _ (List.mem_of_getElem? (i := 16) rfl)
theorem m_545 : Cond.instanceMethod yX7_keepFields ∈ wsL_law := wr_r23 _ (List.mem_of_getElem? (i := 17) rfl)
theorem m_546 : Cond.selects RX7 yX7_keepFields yX7_keepFields ∈ wsL_law := wr_r23 _ (List.mem_of_getElem? (i := 18) rfl)
theorem m_547 : Cond.code yX7_keepFields cX7_keepFields 3 none ∈ wsL_law := wr_r23 _ (List.mem_of_getElem? (i := 19) rfl)
theorem m_548 : Cond.methodLink RX7 281 yX1_keepShare ∈ wsL_law := wr_r23 _ (List.mem_of_getElem? (i := 20) rfl)
theorem m_549 : Cond.instanceMethod yX1_keepShare ∈ wsL_law := wr_r23 _ (List.mem_of_getElem? (i := 21) rfl)
theorem m_550 : Cond.selects RX1 yX1_keepShare yX1_keepShare ∈ wsL_law := wr_r23 _ (List.mem_of_getElem? (i := 22) rfl)
theorem m_551 : Cond.code yX1_keepShare cX1_keepShare 1 none ∈ wsL_law := wr_r23 _ (List.mem_of_getElem? (i := 23) rfl)
theorem wr_r24 : ∀ w ∈ wsL_law_r24, w ∈ wsL_law := fun w h => wr_in w (List.mem_append_right _ (List.mem_append_right _ (List.mem_append_right _ (List.mem_append_right _ (List.mem_append_right _ (List.mem_append_right _ (List.mem_append_right _ (List.mem_append_right _ (List.mem_append_right _ (List.mem_append_right _ (List.mem_append_right _ (List.mem_append_right _ (List.mem_append_right _ (List.mem_append_right _ (List.mem_append_right _ (List.mem_append_right _ (List.mem_append_right _ (List.mem_append_right _ (List.mem_append_right _ (List.mem_append_right _ (List.mem_append_right _ (List.mem_append_right _ (List.mem_append_right _ (List.mem_append_left _ h))))))))))))))))))))))))
theorem m_552 : Cond.methodLink RX1 48 yX1_isFed ∈ wsL_law := wr_r24 _ (List.mem_of_getElem? (i := 0) rfl)
theorem m_553 : Cond.methodLink RX7 177 yX4_addAll ∈ wsL_law := wr_r24 _ (List.mem_of_getElem? (i := 1) rfl)
theorem m_554 : Cond.instanceMethod yX4_addAll ∈ wsL_law := wr_r24 _ (List.mem_of_getElem? (i := 2) rfl)
theorem m_555 : Cond.selects RX4 yX4_addAll yX4_addAll ∈ wsL_law := wr_r24 _ (List.mem_of_getElem? (i := 3) rfl)
theorem m_556 : Cond.code yX4_addAll cX4_addAll 2 none ∈ wsL_law := wr_r24 _ (List.mem_of_getElem? (i := 4) rfl)
theorem m_557 : Cond.methodLink RL 67 yX8_day ∈ wsL_law := wr_r24 _ (List.mem_of_getElem? (i := 5) rfl)
theorem m_558 : Cond.instanceMethod yX8_day ∈ wsL_law := wr_r24 _ (List.mem_of_getElem? (i := 6) rfl)
theorem m_559 : Cond.selects RX8 yX8_day yX8_day ∈ wsL_law := wr_r24 _ (List.mem_of_getElem? (i := 7) rfl)
theorem m_560 : Cond.code yX8_day cX8_day 3 (some .int) ∈ wsL_law := wr_r24 _ (List.mem_of_getElem? (i := 8) rfl)
theorem m_561 : Cond.fieldLink RX8 229 "TankChainModel" "rain" "I" ∈ wsL_law := wr_r24 _ (List.mem_of_getElem? (i := 9) rfl)
theorem m_562 : Cond.methodLink RX8 232 yX8_flows ∈ wsL_law := wr_r24 _ (List.mem_of_getElem? (i := 10) rfl)
theorem m_563 : Cond.instanceMethod yX8_flows ∈ wsL_law := wr_r24 _ (List.mem_of_getElem? (i := 11) rfl)
theorem m_564 : Cond.selects RX8 yX8_flows yX8_flows ∈ wsL_law := wr_r24 _ (List.mem_of_getElem? (i := 12) rfl)
theorem m_565 : Cond.code yX8_flows cX8_flows 16 (some .int) ∈ wsL_law := wr_r24 _ (List.mem_of_getElem? (i := 13) rfl)
theorem m_566 : Cond.fieldLink RX8 217 "TankChainModel" "seeped" "I" ∈ wsL_law := wr_r24 _ (List.mem_of_getElem? (i := 14) rfl)
theorem m_567 : Cond.fieldLink RX8 220 "TankChainModel" "kept" "I" ∈ wsL_law := wr_r24 _ (List.mem_of_getElem? (i := 15) rfl)
theorem m_568 : Cond.fieldLink RX8 223 "TankChainModel" "rained" "I" ∈ wsL_law := wr_r24 _ (List.mem_of_getElem? (i := 16) rfl)
theorem m_569 : Cond.fieldLink RX8 226 "TankChainModel" "out" "I" ∈ wsL_law := wr_r24 _ (List.mem_of_getElem? (i := 17) rfl)
theorem m_570 : Cond.methodLink RX8 213 yX8_gives ∈ wsL_law := wr_r24 _ (List.mem_of_getElem? (i := 18) rfl)
theorem m_571 : Cond.instanceMethod yX8_gives ∈ wsL_law := wr_r24 _ (List.mem_of_getElem? (i := 19) rfl)
theorem m_572 : Cond.selects RX8 yX8_gives yX8_gives ∈ wsL_law := wr_r24 _ (List.mem_of_getElem? (i := 20) rfl)
theorem m_573 : Cond.code yX8_gives cX8_gives 11 (some .int) ∈ wsL_law := wr_r24 _ (List.mem_of_getElem? (i := 21) rfl)
theorem m_574 : Cond.methodLink RX8 195 yX8_custom ∈ wsL_law := wr_r24 _ (List.mem_of_getElem? (i := 22) rfl)
theorem m_575 : Cond.instanceMethod yX8_custom ∈ wsL_law := wr_r24 _ (List.mem_of_getElem? (i := 23) rfl)
theorem wr_r25 : ∀ w ∈ wsL_law_r25, w ∈ wsL_law := fun w h => wr_in w (List.mem_append_right _ (List.mem_append_right _ (List.mem_append_right _ (List.mem_append_right _ (List.mem_append_right _ (List.mem_append_right _ (List.mem_append_right _ (List.mem_append_right _ (List.mem_append_right _ (List.mem_append_right _ (List.mem_append_right _ (List.mem_append_right _ (List.mem_append_right _ (List.mem_append_right _ (List.mem_append_right _ (List.mem_append_right _ (List.mem_append_right _ (List.mem_append_right _ (List.mem_append_right _ (List.mem_append_right _ (List.mem_append_right _ (List.mem_append_right _ (List.mem_append_right _ (List.mem_append_right _ (List.mem_append_left _ h)))))))))))))))))))))))))
theorem m_576 : Cond.selects RX8 yX8_custom yX8_custom ∈ wsL_law := wr_r25 _ (List.mem_of_getElem? (i := 0) rfl)
theorem m_577 : Cond.code yX8_custom cX8_custom 3 (some .int) ∈ wsL_law := wr_r25 _ (List.mem_of_getElem? (i := 1) rfl)
theorem m_578 : Cond.methodLink RX8 206 yX8_ordered ∈ wsL_law := wr_r25 _ (List.mem_of_getElem? (i := 2) rfl)
theorem m_579 : Cond.instanceMethod yX8_ordered ∈ wsL_law := wr_r25 _ (List.mem_of_getElem? (i := 3) rfl)
theorem m_580 : Cond.selects RX8 yX8_ordered yX8_ordered ∈ wsL_law := wr_r25 _ (List.mem_of_getElem? (i := 4) rfl)
theorem m_581 : Cond.code yX8_ordered cX8_ordered 5 (some .int) ∈ wsL_law := wr_r25 _ (List.mem_of_getElem? (i := 5) rfl)
theorem m_582 : Cond.methodLink RX8 202 yX8_isAhead ∈ wsL_law := wr_r25 _ (List.mem_of_getElem? (i := 6) rfl)
theorem m_583 : Cond.instanceMethod yX8_isAhead ∈ wsL_law := wr_r25 _ (List.mem_of_getElem? (i := 7) rfl)
theorem m_584 : Cond.selects RX8 yX8_isAhead yX8_isAhead ∈ wsL_law := wr_r25 _ (List.mem_of_getElem? (i := 8) rfl)
theorem m_585 : Cond.code yX8_isAhead cX8_isAhead 5 (some .boolean) ∈ wsL_law := wr_r25 _ (List.mem_of_getElem? (i := 9) rfl)
theorem m_586 : Cond.methodLink RX8 198 yX8_one ∈ wsL_law := wr_r25 _ (List.mem_of_getElem? (i := 10) rfl)
theorem m_587 : Cond.static yX8_one ∈ wsL_law := wr_r25 _ (List.mem_of_getElem? (i := 11) rfl)
theorem m_588 : Cond.code yX8_one cX8_one 1 (some .int) ∈ wsL_law := wr_r25 _ (List.mem_of_getElem? (i := 12) rfl)
theorem m_589 : Cond.methodLink RX8 210 yX8_isBad ∈ wsL_law := wr_r25 _ (List.mem_of_getElem? (i := 13) rfl)
theorem m_590 : Cond.instanceMethod yX8_isBad ∈ wsL_law := wr_r25 _ (List.mem_of_getElem? (i := 14) rfl)
theorem m_591 : Cond.selects RX8 yX8_isBad yX8_isBad ∈ wsL_law := wr_r25 _ (List.mem_of_getElem? (i := 15) rfl)
theorem m_592 : Cond.code yX8_isBad cX8_isBad 3 (some .boolean) ∈ wsL_law := wr_r25 _ (List.mem_of_getElem? (i := 16) rfl)
theorem m_593 : Cond.methodLink RL 68 yX7_told ∈ wsL_law := wr_r25 _ (List.mem_of_getElem? (i := 17) rfl)
theorem m_594 : Cond.instanceMethod yX7_told ∈ wsL_law := wr_r25 _ (List.mem_of_getElem? (i := 18) rfl)
theorem m_595 : Cond.selects RX7 yX7_told yX7_told ∈ wsL_law := wr_r25 _ (List.mem_of_getElem? (i := 19) rfl)
theorem m_596 : Cond.code yX7_told cX7_told 4 (some .int) ∈ wsL_law := wr_r25 _ (List.mem_of_getElem? (i := 20) rfl)
theorem m_597 : Cond.fieldLink RX7 184 "TankChain$Pool" "taken" "I" ∈ wsL_law := wr_r25 _ (List.mem_of_getElem? (i := 21) rfl)
theorem m_598 : Cond.fieldLink RX7 187 "TankChain$Pool" "spilt" "I" ∈ wsL_law := wr_r25 _ (List.mem_of_getElem? (i := 22) rfl)
theorem m_599 : Cond.methodLink RX7 181 yX7_asNumber ∈ wsL_law := wr_r25 _ (List.mem_of_getElem? (i := 23) rfl)
theorem wr_r26 : ∀ w ∈ wsL_law_r26, w ∈ wsL_law := fun w h => wr_in w (List.mem_append_right _ (List.mem_append_right _ (List.mem_append_right _ (List.mem_append_right _ (List.mem_append_right _ (List.mem_append_right _ (List.mem_append_right _ (List.mem_append_right _ (List.mem_append_right _ (List.mem_append_right _ (List.mem_append_right _ (List.mem_append_right _ (List.mem_append_right _ (List.mem_append_right _ (List.mem_append_right _ (List.mem_append_right _ (List.mem_append_right _ (List.mem_append_right _ (List.mem_append_right _ (List.mem_append_right _ (List.mem_append_right _ (List.mem_append_right _ (List.mem_append_right _ (List.mem_append_right _ (List.mem_append_right _ (List.mem_append_left _ h))))))))))))))))))))))))))
theorem m_600 : Cond.static yX7_asNumber ∈ wsL_law := wr_r26 _ (List.mem_of_getElem? (i := 0) rfl)
theorem m_601 : Cond.code yX7_asNumber cX7_asNumber 1 (some .int) ∈ wsL_law := wr_r26 _ (List.mem_of_getElem? (i := 1) rfl)
theorem m_602 : Cond.methodLink RX7 193 yX5_isBadYearWith ∈ wsL_law := wr_r26 _ (List.mem_of_getElem? (i := 2) rfl)
theorem m_603 : Cond.methodLink RL 71 yX8_told ∈ wsL_law := wr_r26 _ (List.mem_of_getElem? (i := 3) rfl)
theorem m_604 : Cond.instanceMethod yX8_told ∈ wsL_law := wr_r26 _ (List.mem_of_getElem? (i := 4) rfl)
theorem m_605 : Cond.selects RX8 yX8_told yX8_told ∈ wsL_law := wr_r26 _ (List.mem_of_getElem? (i := 5) rfl)
theorem m_606 : Cond.code yX8_told cX8_told 3 (some .int) ∈ wsL_law := wr_r26 _ (List.mem_of_getElem? (i := 6) rfl)
theorem m_607 : Cond.methodLink RL 72 yX7_fieldOf ∈ wsL_law := wr_r26 _ (List.mem_of_getElem? (i := 7) rfl)
theorem m_608 : Cond.instanceMethod yX7_fieldOf ∈ wsL_law := wr_r26 _ (List.mem_of_getElem? (i := 8) rfl)
theorem m_609 : Cond.selects RX7 yX7_fieldOf yX7_fieldOf ∈ wsL_law := wr_r26 _ (List.mem_of_getElem? (i := 9) rfl)
theorem m_610 : Cond.code yX7_fieldOf cX7_fieldOf 4 (some .int) ∈ wsL_law := wr_r26 _ (List.mem_of_getElem? (i := 10) rfl)
theorem m_611 : Cond.fieldLink RX7 204 "TankChain$Field" "far" "I" ∈ wsL_law := wr_r26 _ (List.mem_of_getElem? (i := 11) rfl)
theorem m_612 : Cond.fieldLink RX7 207 "TankChain$Field" "area" "I" ∈ wsL_law := wr_r26 _ (List.mem_of_getElem? (i := 12) rfl)
theorem m_613 : Cond.fieldLink RX7 210 "TankChain$Field" "owner" "I" ∈ wsL_law := wr_r26 _ (List.mem_of_getElem? (i := 13) rfl)
theorem m_614 : Cond.fieldLink RX7 213 "TankChain$Field" "temple" "Z" ∈ wsL_law := wr_r26 _ (List.mem_of_getElem? (i := 14) rfl)
theorem m_615 : Cond.fieldLink RX7 216 "TankChain$Field" "daysFed" "I" ∈ wsL_law := wr_r26 _ (List.mem_of_getElem? (i := 15) rfl)
theorem m_616 : Cond.fieldLink RX7 219 "TankChain$Field" "gotEver" "I" ∈ wsL_law := wr_r26 _ (List.mem_of_getElem? (i := 16) rfl)
theorem m_617 : Cond.fieldLink RX7 222 "TankChain$Field" "gotLately" "I" ∈ wsL_law := wr_r26 _ (List.mem_of_getElem? (i := 17) rfl)
theorem m_618 : Cond.methodLink RL 75 yX8_fieldOf ∈ wsL_law := wr_r26 _ (List.mem_of_getElem? (i := 18) rfl)
theorem m_619 : Cond.instanceMethod yX8_fieldOf ∈ wsL_law := wr_r26 _ (List.mem_of_getElem? (i := 19) rfl)
theorem m_620 : Cond.selects RX8 yX8_fieldOf yX8_fieldOf ∈ wsL_law := wr_r26 _ (List.mem_of_getElem? (i := 20) rfl)
theorem m_621 : Cond.code yX8_fieldOf cX8_fieldOf 3 (some .int) ∈ wsL_law := wr_r26 _ (List.mem_of_getElem? (i := 21) rfl)
theorem m_622 : Cond.methodLink RL 76 yX7_order ∈ wsL_law := wr_r26 _ (List.mem_of_getElem? (i := 22) rfl)
theorem m_623 : Cond.instanceMethod yX7_order ∈ wsL_law := wr_r26 _ (List.mem_of_getElem? (i := 23) rfl)
theorem wr_r27 : ∀ w ∈ wsL_law_r27, w ∈ wsL_law := fun w h => wr_in w (List.mem_append_right _ (List.mem_append_right _ (List.mem_append_right _ (List.mem_append_right _ (List.mem_append_right _ (List.mem_append_right _ (List.mem_append_right _ (List.mem_append_right _ (List.mem_append_right _ (List.mem_append_right _ (List.mem_append_right _ (List.mem_append_right _ (List.mem_append_right _ (List.mem_append_right _ (List.mem_append_right _ (List.mem_append_right _ (List.mem_append_right _ (List.mem_append_right _ (List.mem_append_right _ (List.mem_append_right _ (List.mem_append_right _ (List.mem_append_right _ (List.mem_append_right _ (List.mem_append_right _ (List.mem_append_right _ (List.mem_append_right _ (List.mem_append_left _ h)))))))))))))))))))))))))))
theorem m_624 : Cond.selects RX7 yX7_order yX7_order ∈ wsL_law := wr_r27 _ (List.mem_of_getElem? (i := 0) rfl)
theorem m_625 : Cond.code yX7_order cX7_order 6 (some .int) ∈ wsL_law := wr_r27 _ (List.mem_of_getElem? (i := 1) rfl)
theorem m_626 : Cond.fieldLink RX7 229 "TankChain$Field" "number" "I" ∈ wsL_law := wr_r27 _ (List.mem_of_getElem? (i := 2) rfl)
theorem m_627 : Cond.fieldLink RX7 232 "TankChain$Field" "next" "LTankChain$Field;" ∈ wsL_law := wr_r27 _ (List.mem_of_getElem? (i := 3) rfl)
theorem m_628 : Cond.methodLink RL 79 yX8_order ∈ wsL_law := wr_r27 _ (List.mem_of_getElem? (i := 4) rfl)
theorem m_629 : Cond.instanceMethod yX8_order ∈ wsL_law := wr_r27 _ (List.mem_of_getElem? (i := 5) rfl)
theorem m_630 : Cond.selects RX8 yX8_order yX8_order ∈ wsL_law := wr_r27 _ (List.mem_of_getElem? (i := 6) rfl)
theorem m_631 : Cond.code yX8_order cX8_order 4 (some .int) ∈ wsL_law := wr_r27 _ (List.mem_of_getElem? (i := 7) rfl)
theorem m_632 : Cond.methodLink RL 80 yX7_owner ∈ wsL_law := wr_r27 _ (List.mem_of_getElem? (i := 8) rfl)
theorem m_633 : Cond.instanceMethod yX7_owner ∈ wsL_law := wr_r27 _ (List.mem_of_getElem? (i := 9) rfl)
theorem m_634 : Cond.selects RX7 yX7_owner yX7_owner ∈ wsL_law := wr_r27 _ (List.mem_of_getElem? (i := 10) rfl)
theorem m_635 : Cond.code yX7_owner cX7_owner 5 (some .int) ∈ wsL_law := wr_r27 _ (List.mem_of_getElem? (i := 11) rfl)
theorem m_636 : Cond.methodLink RL 83 yX8_owner ∈ wsL_law := wr_r27 _ (List.mem_of_getElem? (i := 12) rfl)
theorem m_637 : Cond.instanceMethod yX8_owner ∈ wsL_law := wr_r27 _ (List.mem_of_getElem? (i := 13) rfl)
theorem m_638 : Cond.selects RX8 yX8_owner yX8_owner ∈ wsL_law := wr_r27 _ (List.mem_of_getElem? (i := 14) rfl)
theorem m_639 : Cond.code yX8_owner cX8_owner 2 (some .int) ∈ wsL_law := wr_r27 _ (List.mem_of_getElem? (i := 15) rfl)
theorem m_640 : Cond.methodLink RL 84 yX7_tried ∈ wsL_law := wr_r27 _ (List.mem_of_getElem? (i := 16) rfl)
theorem m_641 : Cond.instanceMethod yX7_tried ∈ wsL_law := wr_r27 _ (List.mem_of_getElem? (i := 17) rfl)
theorem m_642 : Cond.selects RX7 yX7_tried yX7_tried ∈ wsL_law := wr_r27 _ (List.mem_of_getElem? (i := 18) rfl)
theorem m_643 : Cond.code yX7_tried cX7_tried 5 (some .int) ∈ wsL_law := wr_r27 _ (List.mem_of_getElem? (i := 19) rfl)
theorem m_644 : Cond.methodLink RX7 235 yX7_mayTry ∈ wsL_law := wr_r27 _ (List.mem_of_getElem? (i := 20) rfl)
theorem m_645 : Cond.static yX7_mayTry ∈ wsL_law := wr_r27 _ (List.mem_of_getElem? (i := 21) rfl)
theorem m_646 : Cond.code yX7_mayTry cX7_mayTry 2 (some .boolean) ∈ wsL_law := wr_r27 _ (List.mem_of_getElem? (i := 22) rfl)
theorem m_647 : Cond.methodLink RX7 239 yX7_waterTried ∈ wsL_law := wr_r27 _ (List.mem_of_getElem? (i := 23) rfl)
theorem wr_r28 : ∀ w ∈ wsL_law_r28, w ∈ wsL_law := fun w h => wr_in w (List.mem_append_right _ (List.mem_append_right _ (List.mem_append_right _ (List.mem_append_right _ (List.mem_append_right _ (List.mem_append_right _ (List.mem_append_right _ (List.mem_append_right _ (List.mem_append_right _ (List.mem_append_right _ (List.mem_append_right _ (List.mem_append_right _ (List.mem_append_right _ (List.mem_append_right _ (List.mem_append_right _ (List.mem_append_right _ (List.mem_append_right _ (List.mem_append_right _ (List.mem_append_right _ (List.mem_append_right _ (List.mem_append_right _ (List.mem_append_right _ (List.mem_append_right _ (List.mem_append_right _ (List.mem_append_right _ (List.mem_append_right _ (List.mem_append_right _ (List.mem_append_left _ h))))))))))))))))))))))))))))
theorem m_648 : Cond.instanceMethod yX7_waterTried ∈ wsL_law := wr_r28 _ (List.mem_of_getElem? (i := 0) rfl)
theorem m_649 : Cond.selects RX7 yX7_waterTried yX7_waterTried ∈ wsL_law := wr_r28 _ (List.mem_of_getElem? (i := 1) rfl)
theorem m_650 : Cond.code yX7_waterTried cX7_waterTried 6 (some .int) ∈ wsL_law := wr_r28 _ (List.mem_of_getElem? (i := 2) rfl)
theorem m_651 : Cond.methodLink RL 88 yX8_tried ∈ wsL_law := wr_r28 _ (List.mem_of_getElem? (i := 3) rfl)
theorem m_652 : Cond.instanceMethod yX8_tried ∈ wsL_law := wr_r28 _ (List.mem_of_getElem? (i := 4) rfl)
theorem m_653 : Cond.selects RX8 yX8_tried yX8_tried ∈ wsL_law := wr_r28 _ (List.mem_of_getElem? (i := 5) rfl)
theorem m_654 : Cond.code yX8_tried cX8_tried 4 (some .int) ∈ wsL_law := wr_r28 _ (List.mem_of_getElem? (i := 6) rfl)
theorem m_655 : Cond.methodLink RX8 236 yX8_isTrial ∈ wsL_law := wr_r28 _ (List.mem_of_getElem? (i := 7) rfl)
theorem m_656 : Cond.static yX8_isTrial ∈ wsL_law := wr_r28 _ (List.mem_of_getElem? (i := 8) rfl)
theorem m_657 : Cond.code yX8_isTrial cX8_isTrial 2 (some .boolean) ∈ wsL_law := wr_r28 _ (List.mem_of_getElem? (i := 9) rfl)
theorem m_658 : Cond.methodLink RX8 239 yX8_openings ∈ wsL_law := wr_r28 _ (List.mem_of_getElem? (i := 10) rfl)
theorem m_659 : Cond.instanceMethod yX8_openings ∈ wsL_law := wr_r28 _ (List.mem_of_getElem? (i := 11) rfl)
theorem m_660 : Cond.selects RX8 yX8_openings yX8_openings ∈ wsL_law := wr_r28 _ (List.mem_of_getElem? (i := 12) rfl)
theorem m_661 : Cond.code yX8_openings cX8_openings 2 none ∈ wsL_law := wr_r28 _ (List.mem_of_getElem? (i := 13) rfl)
theorem m_662 : Cond.methodLink RX8 242 yX8_tries ∈ wsL_law := wr_r28 _ (List.mem_of_getElem? (i := 14) rfl)
theorem m_663 : Cond.instanceMethod yX8_tries ∈ wsL_law := wr_r28 _ (List.mem_of_getElem? (i := 15) rfl)
theorem m_664 : Cond.selects RX8 yX8_tries yX8_tries ∈ wsL_law := wr_r28 _ (List.mem_of_getElem? (i := 16) rfl)
theorem m_665 : Cond.code yX8_tries cX8_tries 5 (some .int) ∈ wsL_law := wr_r28 _ (List.mem_of_getElem? (i := 17) rfl)
theorem m_666 : Cond.methodLink RL 89 yX7_lost ∈ wsL_law := wr_r28 _ (List.mem_of_getElem? (i := 18) rfl)
theorem m_667 : Cond.instanceMethod yX7_lost ∈ wsL_law := wr_r28 _ (List.mem_of_getElem? (i := 19) rfl)
theorem m_668 : Cond.selects RX7 yX7_lost yX7_lost ∈ wsL_law := wr_r28 _ (List.mem_of_getElem? (i := 20) rfl)
theorem m_669 : Cond.code yX7_lost cX7_lost 7 (some .int) ∈ wsL_law := wr_r28 _ (List.mem_of_getElem? (i := 21) rfl)
theorem m_670 : Cond.constant RX7 243 (-100000) ∈ wsL_law := wr_r28 _ (List.mem_of_getElem? (i := 22) rfl)
theorem m_671 : Cond.methodLink RL 93 yX8_lost ∈ wsL_law := wr_r28 _ (List.mem_of_getElem? (i := 23) rfl)
theorem wr_r29 : ∀ w ∈ wsL_law_r29, w ∈ wsL_law := fun w h => wr_in w (List.mem_append_right _ (List.mem_append_right _ (List.mem_append_right _ (List.mem_append_right _ (List.mem_append_right _ (List.mem_append_right _ (List.mem_append_right _ (List.mem_append_right _ (List.mem_append_right _ (List.mem_append_right _ (List.mem_append_right _ (List.mem_append_right _ (List.mem_append_right _ (List.mem_append_right _ (List.mem_append_right _ (List.mem_append_right _ (List.mem_append_right _ (List.mem_append_right _ (List.mem_append_right _ (List.mem_append_right _ (List.mem_append_right _ (List.mem_append_right _ (List.mem_append_right _ (List.mem_append_right _ (List.mem_append_right _ (List.mem_append_right _ (List.mem_append_right _ (List.mem_append_right _ (List.mem_append_left _ h)))))))))))))))))))))))))))))
theorem m_672 : Cond.instanceMethod yX8_lost ∈ wsL_law := wr_r29 _ (List.mem_of_getElem? (i := 0) rfl)
theorem m_673 : Cond.selects RX8 yX8_lost yX8_lost ∈ wsL_law := wr_r29 _ (List.mem_of_getElem? (i := 1) rfl)
theorem m_674 : Cond.code yX8_lost cX8_lost 6 (some .int) ∈ wsL_law := wr_r29 _ (List.mem_of_getElem? (i := 2) rfl)
theorem m_675 : Cond.constant RX8 245 (-100000) ∈ wsL_law := wr_r29 _ (List.mem_of_getElem? (i := 3) rfl)
theorem m_676 : Cond.methodLink RL 94 yX7_most ∈ wsL_law := wr_r29 _ (List.mem_of_getElem? (i := 4) rfl)
theorem m_677 : Cond.instanceMethod yX7_most ∈ wsL_law := wr_r29 _ (List.mem_of_getElem? (i := 5) rfl)
theorem m_678 : Cond.selects RX7 yX7_most yX7_most ∈ wsL_law := wr_r29 _ (List.mem_of_getElem? (i := 6) rfl)
theorem m_679 : Cond.code yX7_most cX7_most 12 (some .int) ∈ wsL_law := wr_r29 _ (List.mem_of_getElem? (i := 7) rfl)
theorem m_680 : Cond.methodLink RX7 244 yX7_areasFedBy ∈ wsL_law := wr_r29 _ (List.mem_of_getElem? (i := 8) rfl)
theorem m_681 : Cond.instanceMethod yX7_areasFedBy ∈ wsL_law := wr_r29 _ (List.mem_of_getElem? (i := 9) rfl)
theorem m_682 : Cond.selects RX7 yX7_areasFedBy yX7_areasFedBy ∈ wsL_law := wr_r29 _ (List.mem_of_getElem? (i := 10) rfl)
theorem m_683 : Cond.code yX7_areasFedBy cX7_areasFedBy 8 (some .int) ∈ wsL_law := wr_r29 _ (List.mem_of_getElem? (i := 11) rfl)
theorem m_684 : Cond.fieldLink RX7 284 "TankChain$Flow" "areasFed" "I" ∈ wsL_law := wr_r29 _ (List.mem_of_getElem? (i := 12) rfl)
theorem m_685 : Cond.methodLink RX7 248 yX7_openingIn ∈ wsL_law := wr_r29 _ (List.mem_of_getElem? (i := 13) rfl)
theorem m_686 : Cond.static yX7_openingIn ∈ wsL_law := wr_r29 _ (List.mem_of_getElem? (i := 14) rfl)
theorem m_687 : Cond.code yX7_openingIn cX7_openingIn 4 (some .int) ∈ wsL_law := wr_r29 _ (List.mem_of_getElem? (i := 15) rfl)
theorem m_688 : Cond.methodLink RL 97 yX8_most ∈ wsL_law := wr_r29 _ (List.mem_of_getElem? (i := 16) rfl)
theorem m_689 : Cond.instanceMethod yX8_most ∈ wsL_law := wr_r29 _ (List.mem_of_getElem? (i := 17) rfl)
theorem m_690 : Cond.selects RX8 yX8_most yX8_most ∈ wsL_law := wr_r29 _ (List.mem_of_getElem? (i := 18) rfl)
theorem m_691 : Cond.code yX8_most cX8_most 12 (some .int) ∈ wsL_law := wr_r29 _ (List.mem_of_getElem? (i := 19) rfl)
theorem m_692 : Cond.methodLink RL 98 yX7_breach ∈ wsL_law := wr_r29 _ (List.mem_of_getElem? (i := 20) rfl)
theorem m_693 : Cond.instanceMethod yX7_breach ∈ wsL_law := wr_r29 _ (List.mem_of_getElem? (i := 21) rfl)
theorem m_694 : Cond.selects RX7 yX7_breach yX7_breach ∈ wsL_law := wr_r29 _ (List.mem_of_getElem? (i := 22) rfl)
theorem m_695 : Cond.code yX7_breach cX7_breach 2 (some .int) ∈ wsL_law := wr_r29 _ (List.mem_of_getElem? (i := 23) rfl)
theorem wr_r30 : ∀ w ∈ wsL_law_r30, w ∈ wsL_law := fun w h => wr_in w (List.mem_append_right _ (List.mem_append_right _ (List.mem_append_right _ (List.mem_append_right _ (List.mem_append_right _ (List.mem_append_right _ (List.mem_append_right _ (List.mem_append_right _ (List.mem_append_right _ (List.mem_append_right _ (List.mem_append_right _ (List.mem_append_right _ (List.mem_append_right _ (List.mem_append_right _ (List.mem_append_right _ (List.mem_append_right _ (List.mem_append_right _ (List.mem_append_right _ (List.mem_append_right _ (List.mem_append_right _ (List.mem_append_right _ (List.mem_append_right _ (List.mem_append_right _ (List.mem_append_right _ (List.mem_append_right _ (List.mem_append_right _ (List.mem_append_right _ (List.mem_append_right _ (List.mem_append_right _ (h))))))))))))))))))))))))))))))
theorem m_696 : Cond.methodLink RL 101 yX8_breach ∈ wsL_law := wr_r30 _ (List.mem_of_getElem? (i := 0) rfl)
theorem m_697 : Cond.instanceMethod yX8_breach ∈ wsL_law := wr_r30 _ (List.mem_of_getElem? (i := 1) rfl)
theorem m_698 : Cond.selects RX8 yX8_breach yX8_breach ∈ wsL_law := wr_r30 _ (List.mem_of_getElem? (i := 2) rfl)
theorem m_699 : Cond.code yX8_breach cX8_breach 2 (some .int) ∈ wsL_law := wr_r30 _ (List.mem_of_getElem? (i := 3) rfl)
theorem m_700 : Cond.methodLink RL 102 yX7_count ∈ wsL_law := wr_r30 _ (List.mem_of_getElem? (i := 4) rfl)
theorem m_701 : Cond.instanceMethod yX7_count ∈ wsL_law := wr_r30 _ (List.mem_of_getElem? (i := 5) rfl)
theorem m_702 : Cond.selects RX7 yX7_count yX7_count ∈ wsL_law := wr_r30 _ (List.mem_of_getElem? (i := 6) rfl)
theorem m_703 : Cond.code yX7_count cX7_count 2 (some .int) ∈ wsL_law := wr_r30 _ (List.mem_of_getElem? (i := 7) rfl)
theorem m_704 : Cond.fieldLink RX7 255 "TankChain$Sums" "out" "I" ∈ wsL_law := wr_r30 _ (List.mem_of_getElem? (i := 8) rfl)
theorem m_705 : Cond.fieldLink RX7 258 "TankChain$Sums" "seeped" "I" ∈ wsL_law := wr_r30 _ (List.mem_of_getElem? (i := 9) rfl)
theorem m_706 : Cond.fieldLink RX7 261 "TankChain$Sums" "kept" "I" ∈ wsL_law := wr_r30 _ (List.mem_of_getElem? (i := 10) rfl)
theorem m_707 : Cond.fieldLink RX7 264 "TankChain$Sums" "rained" "I" ∈ wsL_law := wr_r30 _ (List.mem_of_getElem? (i := 11) rfl)
theorem m_708 : Cond.methodLink RX7 251 yX7_allWater ∈ wsL_law := wr_r30 _ (List.mem_of_getElem? (i := 12) rfl)
theorem m_709 : Cond.instanceMethod yX7_allWater ∈ wsL_law := wr_r30 _ (List.mem_of_getElem? (i := 13) rfl)
theorem m_710 : Cond.selects RX7 yX7_allWater yX7_allWater ∈ wsL_law := wr_r30 _ (List.mem_of_getElem? (i := 14) rfl)
theorem m_711 : Cond.code yX7_allWater cX7_allWater 3 (some .int) ∈ wsL_law := wr_r30 _ (List.mem_of_getElem? (i := 15) rfl)
theorem m_712 : Cond.methodLink RL 105 yX8_count ∈ wsL_law := wr_r30 _ (List.mem_of_getElem? (i := 16) rfl)
theorem m_713 : Cond.instanceMethod yX8_count ∈ wsL_law := wr_r30 _ (List.mem_of_getElem? (i := 17) rfl)
theorem m_714 : Cond.selects RX8 yX8_count yX8_count ∈ wsL_law := wr_r30 _ (List.mem_of_getElem? (i := 18) rfl)
theorem m_715 : Cond.code yX8_count cX8_count 4 (some .int) ∈ wsL_law := wr_r30 _ (List.mem_of_getElem? (i := 19) rfl)
theorem fX0_0 : r_fld 0 0 RX0 TX0 6 (.array .int) := ⟨rfl, by decide, inlX0, rfl, rfl, tyX0_ok 0 (by decide), tyX0_ok, nmX0⟩
theorem fX0_1 : r_fld 0 1 RX0 TX0 6 (.int) := ⟨rfl, by decide, inlX0, rfl, rfl, tyX0_ok 1 (by decide), tyX0_ok, nmX0⟩
theorem fX0_2 : r_fld 0 2 RX0 TX0 6 (.int) := ⟨rfl, by decide, inlX0, rfl, rfl, tyX0_ok 2 (by decide), tyX0_ok, nmX0⟩
theorem fX0_3 : r_fld 0 3 RX0 TX0 6 (.int) := ⟨rfl, by decide, inlX0, rfl, rfl, tyX0_ok 3 (by decide), tyX0_ok, nmX0⟩
theorem fX0_4 : r_fld 0 4 RX0 TX0 6 (.boolean) := ⟨rfl, by decide, inlX0, rfl, rfl, tyX0_ok 4 (by decide), tyX0_ok, nmX0⟩
theorem fX0_5 : r_fld 0 5 RX0 TX0 6 (.int) := ⟨rfl, by decide, inlX0, rfl, rfl, tyX0_ok 5 (by decide), tyX0_ok, nmX0⟩
theorem fX1_0 : r_fld 1 0 RX1 TX1 12 (.int) := ⟨rfl, by decide, inlX1, rfl, rfl, tyX1_ok 0 (by decide), tyX1_ok, nmX1⟩
theorem fX1_1 : r_fld 1 1 RX1 TX1 12 (.int) := ⟨rfl, by decide, inlX1, rfl, rfl, tyX1_ok 1 (by decide), tyX1_ok, nmX1⟩
theorem fX1_2 : r_fld 1 2 RX1 TX1 12 (.int) := ⟨rfl, by decide, inlX1, rfl, rfl, tyX1_ok 2 (by decide), tyX1_ok, nmX1⟩
theorem fX1_3 : r_fld 1 3 RX1 TX1 12 (.int) := ⟨rfl, by decide, inlX1, rfl, rfl, tyX1_ok 3 (by decide), tyX1_ok, nmX1⟩
theorem fX1_4 : r_fld 1 4 RX1 TX1 12 (.int) := ⟨rfl, by decide, inlX1, rfl, rfl, tyX1_ok 4 (by decide), tyX1_ok, nmX1⟩
theorem fX1_5 : r_fld 1 5 RX1 TX1 12 (.boolean) := ⟨rfl, by decide, inlX1, rfl, rfl, tyX1_ok 5 (by decide), tyX1_ok, nmX1⟩
theorem fX1_6 : r_fld 1 6 RX1 TX1 12 (.object RX1) := ⟨rfl, by decide, inlX1, rfl, rfl, tyX1_ok 6 (by decide), tyX1_ok, nmX1⟩
theorem fX1_7 : r_fld 1 7 RX1 TX1 12 (.int) := ⟨rfl, by decide, inlX1, rfl, rfl, tyX1_ok 7 (by decide), tyX1_ok, nmX1⟩
theorem fX1_8 : r_fld 1 8 RX1 TX1 12 (.int) := ⟨rfl, by decide, inlX1, rfl, rfl, tyX1_ok 8 (by decide), tyX1_ok, nmX1⟩
theorem fX1_9 : r_fld 1 9 RX1 TX1 12 (.int) := ⟨rfl, by decide, inlX1, rfl, rfl, tyX1_ok 9 (by decide), tyX1_ok, nmX1⟩
theorem fX1_10 : r_fld 1 10 RX1 TX1 12 (.int) := ⟨rfl, by decide, inlX1, rfl, rfl, tyX1_ok 10 (by decide), tyX1_ok, nmX1⟩
theorem fX1_11 : r_fld 1 11 RX1 TX1 12 (.int) := ⟨rfl, by decide, inlX1, rfl, rfl, tyX1_ok 11 (by decide), tyX1_ok, nmX1⟩
theorem fX2_0 : r_fld 2 0 RX2 TX2 4 (.object RX5) := ⟨rfl, by decide, inlX2, rfl, rfl, tyX2_ok 0 (by decide), tyX2_ok, nmX2⟩
theorem fX2_1 : r_fld 2 1 RX2 TX2 4 (.object RX0) := ⟨rfl, by decide, inlX2, rfl, rfl, tyX2_ok 1 (by decide), tyX2_ok, nmX2⟩
theorem fX2_2 : r_fld 2 2 RX2 TX2 4 (.object RX4) := ⟨rfl, by decide, inlX2, rfl, rfl, tyX2_ok 2 (by decide), tyX2_ok, nmX2⟩
theorem fX2_3 : r_fld 2 3 RX2 TX2 4 (.int) := ⟨rfl, by decide, inlX2, rfl, rfl, tyX2_ok 3 (by decide), tyX2_ok, nmX2⟩
theorem fX3_0 : r_fld 3 0 RX3 TX3 5 (.int) := ⟨rfl, by decide, inlX3, rfl, rfl, tyX3_ok 0 (by decide), tyX3_ok, nmX3⟩
theorem fX3_1 : r_fld 3 1 RX3 TX3 5 (.int) := ⟨rfl, by decide, inlX3, rfl, rfl, tyX3_ok 1 (by decide), tyX3_ok, nmX3⟩
theorem fX3_2 : r_fld 3 2 RX3 TX3 5 (.boolean) := ⟨rfl, by decide, inlX3, rfl, rfl, tyX3_ok 2 (by decide), tyX3_ok, nmX3⟩
theorem fX3_3 : r_fld 3 3 RX3 TX3 5 (.int) := ⟨rfl, by decide, inlX3, rfl, rfl, tyX3_ok 3 (by decide), tyX3_ok, nmX3⟩
theorem fX3_4 : r_fld 3 4 RX3 TX3 5 (.int) := ⟨rfl, by decide, inlX3, rfl, rfl, tyX3_ok 4 (by decide), tyX3_ok, nmX3⟩
theorem fX4_0 : r_fld 4 0 RX4 TX4 4 (.int) := ⟨rfl, by decide, inlX4, rfl, rfl, tyX4_ok 0 (by decide), tyX4_ok, nmX4⟩
theorem fX4_1 : r_fld 4 1 RX4 TX4 4 (.int) := ⟨rfl, by decide, inlX4, rfl, rfl, tyX4_ok 1 (by decide), tyX4_ok, nmX4⟩
theorem fX4_2 : r_fld 4 2 RX4 TX4 4 (.int) := ⟨rfl, by decide, inlX4, rfl, rfl, tyX4_ok 2 (by decide), tyX4_ok, nmX4⟩
theorem fX4_3 : r_fld 4 3 RX4 TX4 4 (.int) := ⟨rfl, by decide, inlX4, rfl, rfl, tyX4_ok 3 (by decide), tyX4_ok, nmX4⟩
theorem fX5_0 : r_fld 5 0 RX5 TX5 10 (.int) := ⟨rfl, by decide, inlX5, rfl, rfl, tyX5_ok 0 (by decide), tyX5_ok, nmX5⟩
theorem fX5_1 : r_fld 5 1 RX5 TX5 10 (.object RX5) := ⟨rfl, by decide, inlX5, rfl, rfl, tyX5_ok 1 (by decide), tyX5_ok, nmX5⟩
theorem fX5_2 : r_fld 5 2 RX5 TX5 10 (.object RX3) := ⟨rfl, by decide, inlX5, rfl, rfl, tyX5_ok 2 (by decide), tyX5_ok, nmX5⟩
theorem fX5_3 : r_fld 5 3 RX5 TX5 10 (.object RX3) := ⟨rfl, by decide, inlX5, rfl, rfl, tyX5_ok 3 (by decide), tyX5_ok, nmX5⟩
theorem fX5_4 : r_fld 5 4 RX5 TX5 10 (.int) := ⟨rfl, by decide, inlX5, rfl, rfl, tyX5_ok 4 (by decide), tyX5_ok, nmX5⟩
theorem fX5_5 : r_fld 5 5 RX5 TX5 10 (.int) := ⟨rfl, by decide, inlX5, rfl, rfl, tyX5_ok 5 (by decide), tyX5_ok, nmX5⟩
theorem fX5_6 : r_fld 5 6 RX5 TX5 10 (.int) := ⟨rfl, by decide, inlX5, rfl, rfl, tyX5_ok 6 (by decide), tyX5_ok, nmX5⟩
theorem fX5_7 : r_fld 5 7 RX5 TX5 10 (.int) := ⟨rfl, by decide, inlX5, rfl, rfl, tyX5_ok 7 (by decide), tyX5_ok, nmX5⟩
theorem fX5_8 : r_fld 5 8 RX5 TX5 10 (.int) := ⟨rfl, by decide, inlX5, rfl, rfl, tyX5_ok 8 (by decide), tyX5_ok, nmX5⟩
theorem fX5_9 : r_fld 5 9 RX5 TX5 10 (.object RX1) := ⟨rfl, by decide, inlX5, rfl, rfl, tyX5_ok 9 (by decide), tyX5_ok, nmX5⟩
theorem fX6_0 : r_fld 6 0 RX6 TX6 6 (.array .byte) := ⟨rfl, by decide, inlX6, rfl, rfl, tyX6_ok 0 (by decide), tyX6_ok, nmX6⟩
theorem fX6_1 : r_fld 6 1 RX6 TX6 6 (.int) := ⟨rfl, by decide, inlX6, rfl, rfl, tyX6_ok 1 (by decide), tyX6_ok, nmX6⟩
theorem fX6_2 : r_fld 6 2 RX6 TX6 6 (.int) := ⟨rfl, by decide, inlX6, rfl, rfl, tyX6_ok 2 (by decide), tyX6_ok, nmX6⟩
theorem fX6_3 : r_fld 6 3 RX6 TX6 6 (.int) := ⟨rfl, by decide, inlX6, rfl, rfl, tyX6_ok 3 (by decide), tyX6_ok, nmX6⟩
theorem fX6_4 : r_fld 6 4 RX6 TX6 6 (.int) := ⟨rfl, by decide, inlX6, rfl, rfl, tyX6_ok 4 (by decide), tyX6_ok, nmX6⟩
theorem fX6_5 : r_fld 6 5 RX6 TX6 6 (.int) := ⟨rfl, by decide, inlX6, rfl, rfl, tyX6_ok 5 (by decide), tyX6_ok, nmX6⟩
theorem fX7_0 : r_fld 7 0 RX7 TX7 15 (.array (.object RX5)) := ⟨rfl, by decide, inlX7, rfl, rfl, tyX7_ok 0 (by decide), tyX7_ok, nmX7⟩
theorem fX7_1 : r_fld 7 1 RX7 TX7 15 (.array (.object RX1)) := ⟨rfl, by decide, inlX7, rfl, rfl, tyX7_ok 1 (by decide), tyX7_ok, nmX7⟩
theorem fX7_2 : r_fld 7 2 RX7 TX7 15 (.object RX6) := ⟨rfl, by decide, inlX7, rfl, rfl, tyX7_ok 2 (by decide), tyX7_ok, nmX7⟩
theorem fX7_3 : r_fld 7 3 RX7 TX7 15 (.object RX0) := ⟨rfl, by decide, inlX7, rfl, rfl, tyX7_ok 3 (by decide), tyX7_ok, nmX7⟩
theorem fX7_4 : r_fld 7 4 RX7 TX7 15 (.object RX0) := ⟨rfl, by decide, inlX7, rfl, rfl, tyX7_ok 4 (by decide), tyX7_ok, nmX7⟩
theorem fX7_5 : r_fld 7 5 RX7 TX7 15 (.object RX2) := ⟨rfl, by decide, inlX7, rfl, rfl, tyX7_ok 5 (by decide), tyX7_ok, nmX7⟩
theorem fX7_6 : r_fld 7 6 RX7 TX7 15 (.object RX4) := ⟨rfl, by decide, inlX7, rfl, rfl, tyX7_ok 6 (by decide), tyX7_ok, nmX7⟩
theorem fX7_7 : r_fld 7 7 RX7 TX7 15 (.int) := ⟨rfl, by decide, inlX7, rfl, rfl, tyX7_ok 7 (by decide), tyX7_ok, nmX7⟩
theorem fX7_8 : r_fld 7 8 RX7 TX7 15 (.int) := ⟨rfl, by decide, inlX7, rfl, rfl, tyX7_ok 8 (by decide), tyX7_ok, nmX7⟩
theorem fX7_9 : r_fld 7 9 RX7 TX7 15 (.int) := ⟨rfl, by decide, inlX7, rfl, rfl, tyX7_ok 9 (by decide), tyX7_ok, nmX7⟩
theorem fX7_10 : r_fld 7 10 RX7 TX7 15 (.int) := ⟨rfl, by decide, inlX7, rfl, rfl, tyX7_ok 10 (by decide), tyX7_ok, nmX7⟩
theorem fX7_11 : r_fld 7 11 RX7 TX7 15 (.int) := ⟨rfl, by decide, inlX7, rfl, rfl, tyX7_ok 11 (by decide), tyX7_ok, nmX7⟩
theorem fX7_12 : r_fld 7 12 RX7 TX7 15 (.int) := ⟨rfl, by decide, inlX7, rfl, rfl, tyX7_ok 12 (by decide), tyX7_ok, nmX7⟩
theorem fX7_13 : r_fld 7 13 RX7 TX7 15 (.int) := ⟨rfl, by decide, inlX7, rfl, rfl, tyX7_ok 13 (by decide), tyX7_ok, nmX7⟩
theorem fX7_14 : r_fld 7 14 RX7 TX7 15 (.int) := ⟨rfl, by decide, inlX7, rfl, rfl, tyX7_ok 14 (by decide), tyX7_ok, nmX7⟩
theorem fX8_0 : r_fld 8 0 RX8 TX8 47 (.int) := ⟨rfl, by decide, inlX8, rfl, rfl, tyX8_ok 0 (by decide), tyX8_ok, nmX8⟩
theorem fX8_1 : r_fld 8 1 RX8 TX8 47 (.int) := ⟨rfl, by decide, inlX8, rfl, rfl, tyX8_ok 1 (by decide), tyX8_ok, nmX8⟩
theorem fX8_2 : r_fld 8 2 RX8 TX8 47 (.int) := ⟨rfl, by decide, inlX8, rfl, rfl, tyX8_ok 2 (by decide), tyX8_ok, nmX8⟩
theorem fX8_3 : r_fld 8 3 RX8 TX8 47 (.int) := ⟨rfl, by decide, inlX8, rfl, rfl, tyX8_ok 3 (by decide), tyX8_ok, nmX8⟩
theorem fX8_4 : r_fld 8 4 RX8 TX8 47 (.array .int) := ⟨rfl, by decide, inlX8, rfl, rfl, tyX8_ok 4 (by decide), tyX8_ok, nmX8⟩
theorem fX8_5 : r_fld 8 5 RX8 TX8 47 (.array .int) := ⟨rfl, by decide, inlX8, rfl, rfl, tyX8_ok 5 (by decide), tyX8_ok, nmX8⟩
theorem fX8_6 : r_fld 8 6 RX8 TX8 47 (.array .int) := ⟨rfl, by decide, inlX8, rfl, rfl, tyX8_ok 6 (by decide), tyX8_ok, nmX8⟩
theorem fX8_7 : r_fld 8 7 RX8 TX8 47 (.array .int) := ⟨rfl, by decide, inlX8, rfl, rfl, tyX8_ok 7 (by decide), tyX8_ok, nmX8⟩
theorem fX8_8 : r_fld 8 8 RX8 TX8 47 (.array .int) := ⟨rfl, by decide, inlX8, rfl, rfl, tyX8_ok 8 (by decide), tyX8_ok, nmX8⟩
theorem fX8_9 : r_fld 8 9 RX8 TX8 47 (.array .int) := ⟨rfl, by decide, inlX8, rfl, rfl, tyX8_ok 9 (by decide), tyX8_ok, nmX8⟩
theorem fX8_10 : r_fld 8 10 RX8 TX8 47 (.array .int) := ⟨rfl, by decide, inlX8, rfl, rfl, tyX8_ok 10 (by decide), tyX8_ok, nmX8⟩
theorem fX8_11 : r_fld 8 11 RX8 TX8 47 (.array .int) := ⟨rfl, by decide, inlX8, rfl, rfl, tyX8_ok 11 (by decide), tyX8_ok, nmX8⟩
theorem fX8_12 : r_fld 8 12 RX8 TX8 47 (.array .int) := ⟨rfl, by decide, inlX8, rfl, rfl, tyX8_ok 12 (by decide), tyX8_ok, nmX8⟩
theorem fX8_13 : r_fld 8 13 RX8 TX8 47 (.array .boolean) := ⟨rfl, by decide, inlX8, rfl, rfl, tyX8_ok 13 (by decide), tyX8_ok, nmX8⟩
theorem fX8_14 : r_fld 8 14 RX8 TX8 47 (.array .int) := ⟨rfl, by decide, inlX8, rfl, rfl, tyX8_ok 14 (by decide), tyX8_ok, nmX8⟩
theorem fX8_15 : r_fld 8 15 RX8 TX8 47 (.array .int) := ⟨rfl, by decide, inlX8, rfl, rfl, tyX8_ok 15 (by decide), tyX8_ok, nmX8⟩
theorem fX8_16 : r_fld 8 16 RX8 TX8 47 (.array .int) := ⟨rfl, by decide, inlX8, rfl, rfl, tyX8_ok 16 (by decide), tyX8_ok, nmX8⟩
theorem fX8_17 : r_fld 8 17 RX8 TX8 47 (.array .int) := ⟨rfl, by decide, inlX8, rfl, rfl, tyX8_ok 17 (by decide), tyX8_ok, nmX8⟩
theorem fX8_18 : r_fld 8 18 RX8 TX8 47 (.array .int) := ⟨rfl, by decide, inlX8, rfl, rfl, tyX8_ok 18 (by decide), tyX8_ok, nmX8⟩
theorem fX8_19 : r_fld 8 19 RX8 TX8 47 (.array .int) := ⟨rfl, by decide, inlX8, rfl, rfl, tyX8_ok 19 (by decide), tyX8_ok, nmX8⟩
theorem fX8_20 : r_fld 8 20 RX8 TX8 47 (.array .int) := ⟨rfl, by decide, inlX8, rfl, rfl, tyX8_ok 20 (by decide), tyX8_ok, nmX8⟩
theorem fX8_21 : r_fld 8 21 RX8 TX8 47 (.array .boolean) := ⟨rfl, by decide, inlX8, rfl, rfl, tyX8_ok 21 (by decide), tyX8_ok, nmX8⟩
theorem fX8_22 : r_fld 8 22 RX8 TX8 47 (.array .int) := ⟨rfl, by decide, inlX8, rfl, rfl, tyX8_ok 22 (by decide), tyX8_ok, nmX8⟩
theorem fX8_23 : r_fld 8 23 RX8 TX8 47 (.int) := ⟨rfl, by decide, inlX8, rfl, rfl, tyX8_ok 23 (by decide), tyX8_ok, nmX8⟩
theorem fX8_24 : r_fld 8 24 RX8 TX8 47 (.int) := ⟨rfl, by decide, inlX8, rfl, rfl, tyX8_ok 24 (by decide), tyX8_ok, nmX8⟩
theorem fX8_25 : r_fld 8 25 RX8 TX8 47 (.int) := ⟨rfl, by decide, inlX8, rfl, rfl, tyX8_ok 25 (by decide), tyX8_ok, nmX8⟩
theorem fX8_26 : r_fld 8 26 RX8 TX8 47 (.int) := ⟨rfl, by decide, inlX8, rfl, rfl, tyX8_ok 26 (by decide), tyX8_ok, nmX8⟩
theorem fX8_27 : r_fld 8 27 RX8 TX8 47 (.int) := ⟨rfl, by decide, inlX8, rfl, rfl, tyX8_ok 27 (by decide), tyX8_ok, nmX8⟩
theorem fX8_28 : r_fld 8 28 RX8 TX8 47 (.int) := ⟨rfl, by decide, inlX8, rfl, rfl, tyX8_ok 28 (by decide), tyX8_ok, nmX8⟩
theorem fX8_29 : r_fld 8 29 RX8 TX8 47 (.int) := ⟨rfl, by decide, inlX8, rfl, rfl, tyX8_ok 29 (by decide), tyX8_ok, nmX8⟩
theorem fX8_30 : r_fld 8 30 RX8 TX8 47 (.int) := ⟨rfl, by decide, inlX8, rfl, rfl, tyX8_ok 30 (by decide), tyX8_ok, nmX8⟩
theorem fX8_31 : r_fld 8 31 RX8 TX8 47 (.array .byte) := ⟨rfl, by decide, inlX8, rfl, rfl, tyX8_ok 31 (by decide), tyX8_ok, nmX8⟩
theorem fX8_32 : r_fld 8 32 RX8 TX8 47 (.array .byte) := ⟨rfl, by decide, inlX8, rfl, rfl, tyX8_ok 32 (by decide), tyX8_ok, nmX8⟩
theorem fX8_33 : r_fld 8 33 RX8 TX8 47 (.int) := ⟨rfl, by decide, inlX8, rfl, rfl, tyX8_ok 33 (by decide), tyX8_ok, nmX8⟩
theorem fX8_34 : r_fld 8 34 RX8 TX8 47 (.int) := ⟨rfl, by decide, inlX8, rfl, rfl, tyX8_ok 34 (by decide), tyX8_ok, nmX8⟩
theorem fX8_35 : r_fld 8 35 RX8 TX8 47 (.int) := ⟨rfl, by decide, inlX8, rfl, rfl, tyX8_ok 35 (by decide), tyX8_ok, nmX8⟩
theorem fX8_36 : r_fld 8 36 RX8 TX8 47 (.int) := ⟨rfl, by decide, inlX8, rfl, rfl, tyX8_ok 36 (by decide), tyX8_ok, nmX8⟩
theorem fX8_37 : r_fld 8 37 RX8 TX8 47 (.array .int) := ⟨rfl, by decide, inlX8, rfl, rfl, tyX8_ok 37 (by decide), tyX8_ok, nmX8⟩
theorem fX8_38 : r_fld 8 38 RX8 TX8 47 (.boolean) := ⟨rfl, by decide, inlX8, rfl, rfl, tyX8_ok 38 (by decide), tyX8_ok, nmX8⟩
theorem fX8_39 : r_fld 8 39 RX8 TX8 47 (.int) := ⟨rfl, by decide, inlX8, rfl, rfl, tyX8_ok 39 (by decide), tyX8_ok, nmX8⟩
theorem fX8_40 : r_fld 8 40 RX8 TX8 47 (.int) := ⟨rfl, by decide, inlX8, rfl, rfl, tyX8_ok 40 (by decide), tyX8_ok, nmX8⟩
theorem fX8_41 : r_fld 8 41 RX8 TX8 47 (.array .int) := ⟨rfl, by decide, inlX8, rfl, rfl, tyX8_ok 41 (by decide), tyX8_ok, nmX8⟩
theorem fX8_42 : r_fld 8 42 RX8 TX8 47 (.array .int) := ⟨rfl, by decide, inlX8, rfl, rfl, tyX8_ok 42 (by decide), tyX8_ok, nmX8⟩
theorem fX8_43 : r_fld 8 43 RX8 TX8 47 (.array .boolean) := ⟨rfl, by decide, inlX8, rfl, rfl, tyX8_ok 43 (by decide), tyX8_ok, nmX8⟩
theorem fX8_44 : r_fld 8 44 RX8 TX8 47 (.array .int) := ⟨rfl, by decide, inlX8, rfl, rfl, tyX8_ok 44 (by decide), tyX8_ok, nmX8⟩
theorem fX8_45 : r_fld 8 45 RX8 TX8 47 (.array .int) := ⟨rfl, by decide, inlX8, rfl, rfl, tyX8_ok 45 (by decide), tyX8_ok, nmX8⟩
theorem fX8_46 : r_fld 8 46 RX8 TX8 47 (.array .boolean) := ⟨rfl, by decide, inlX8, rfl, rfl, tyX8_ok 46 (by decide), tyX8_ok, nmX8⟩
theorem hd_X0_init : (yX0_init).cls ≠ "java/lang/invoke/MethodHandle" ∧ (yX0_init).cls ≠ "java/lang/invoke/VarHandle" ∧ (parseMethodDescriptor (yX0_init).desc).map (fun d => d.parameters.length) = some 0 := by decide +kernel
theorem hd_X0_clear : (yX0_clear).cls ≠ "java/lang/invoke/MethodHandle" ∧ (yX0_clear).cls ≠ "java/lang/invoke/VarHandle" ∧ (parseMethodDescriptor (yX0_clear).desc).map (fun d => d.parameters.length) = some 0 := by decide +kernel
theorem hd_X0_addFirst : (yX0_addFirst).cls ≠ "java/lang/invoke/MethodHandle" ∧ (yX0_addFirst).cls ≠ "java/lang/invoke/VarHandle" ∧ (parseMethodDescriptor (yX0_addFirst).desc).map (fun d => d.parameters.length) = some 1 := by decide +kernel
theorem hd_X0_becomeAs : (yX0_becomeAs).cls ≠ "java/lang/invoke/MethodHandle" ∧ (yX0_becomeAs).cls ≠ "java/lang/invoke/VarHandle" ∧ (parseMethodDescriptor (yX0_becomeAs).desc).map (fun d => d.parameters.length) = some 1 := by decide +kernel
theorem hd_X0_rank : (yX0_rank).cls ≠ "java/lang/invoke/MethodHandle" ∧ (yX0_rank).cls ≠ "java/lang/invoke/VarHandle" ∧ (parseMethodDescriptor (yX0_rank).desc).map (fun d => d.parameters.length) = some 2 := by decide +kernel
theorem hd_X0_isAhead : (yX0_isAhead).cls ≠ "java/lang/invoke/MethodHandle" ∧ (yX0_isAhead).cls ≠ "java/lang/invoke/VarHandle" ∧ (parseMethodDescriptor (yX0_isAhead).desc).map (fun d => d.parameters.length) = some 2 := by decide +kernel
theorem hd_X1_init : (yX1_init).cls ≠ "java/lang/invoke/MethodHandle" ∧ (yX1_init).cls ≠ "java/lang/invoke/VarHandle" ∧ (parseMethodDescriptor (yX1_init).desc).map (fun d => d.parameters.length) = some 6 := by decide +kernel
theorem hd_X1_isFed : (yX1_isFed).cls ≠ "java/lang/invoke/MethodHandle" ∧ (yX1_isFed).cls ≠ "java/lang/invoke/VarHandle" ∧ (parseMethodDescriptor (yX1_isFed).desc).map (fun d => d.parameters.length) = some 0 := by decide +kernel
theorem hd_X1_keepShare : (yX1_keepShare).cls ≠ "java/lang/invoke/MethodHandle" ∧ (yX1_keepShare).cls ≠ "java/lang/invoke/VarHandle" ∧ (parseMethodDescriptor (yX1_keepShare).desc).map (fun d => d.parameters.length) = some 0 := by decide +kernel
theorem hd_X4_init : (yX4_init).cls ≠ "java/lang/invoke/MethodHandle" ∧ (yX4_init).cls ≠ "java/lang/invoke/VarHandle" ∧ (parseMethodDescriptor (yX4_init).desc).map (fun d => d.parameters.length) = some 0 := by decide +kernel
theorem hd_X2_init : (yX2_init).cls ≠ "java/lang/invoke/MethodHandle" ∧ (yX2_init).cls ≠ "java/lang/invoke/VarHandle" ∧ (parseMethodDescriptor (yX2_init).desc).map (fun d => d.parameters.length) = some 2 := by decide +kernel
theorem hd_X3_becomeAs : (yX3_becomeAs).cls ≠ "java/lang/invoke/MethodHandle" ∧ (yX3_becomeAs).cls ≠ "java/lang/invoke/VarHandle" ∧ (parseMethodDescriptor (yX3_becomeAs).desc).map (fun d => d.parameters.length) = some 1 := by decide +kernel
theorem hd_X2_startFromNow : (yX2_startFromNow).cls ≠ "java/lang/invoke/MethodHandle" ∧ (yX2_startFromNow).cls ≠ "java/lang/invoke/VarHandle" ∧ (parseMethodDescriptor (yX2_startFromNow).desc).map (fun d => d.parameters.length) = some 0 := by decide +kernel
theorem hd_X4_clear : (yX4_clear).cls ≠ "java/lang/invoke/MethodHandle" ∧ (yX4_clear).cls ≠ "java/lang/invoke/VarHandle" ∧ (parseMethodDescriptor (yX4_clear).desc).map (fun d => d.parameters.length) = some 0 := by decide +kernel
theorem hd_X5_isBadYearWith : (yX5_isBadYearWith).cls ≠ "java/lang/invoke/MethodHandle" ∧ (yX5_isBadYearWith).cls ≠ "java/lang/invoke/VarHandle" ∧ (parseMethodDescriptor (yX5_isBadYearWith).desc).map (fun d => d.parameters.length) = some 1 := by decide +kernel
theorem hd_X2_areasWithin : (yX2_areasWithin).cls ≠ "java/lang/invoke/MethodHandle" ∧ (yX2_areasWithin).cls ≠ "java/lang/invoke/VarHandle" ∧ (parseMethodDescriptor (yX2_areasWithin).desc).map (fun d => d.parameters.length) = some 2 := by decide +kernel
theorem hd_X2_giveOneMore : (yX2_giveOneMore).cls ≠ "java/lang/invoke/MethodHandle" ∧ (yX2_giveOneMore).cls ≠ "java/lang/invoke/VarHandle" ∧ (parseMethodDescriptor (yX2_giveOneMore).desc).map (fun d => d.parameters.length) = some 1 := by decide +kernel
theorem hd_X2_shareFairly : (yX2_shareFairly).cls ≠ "java/lang/invoke/MethodHandle" ∧ (yX2_shareFairly).cls ≠ "java/lang/invoke/VarHandle" ∧ (parseMethodDescriptor (yX2_shareFairly).desc).map (fun d => d.parameters.length) = some 4 := by decide +kernel
theorem hd_X2_shareInOrder : (yX2_shareInOrder).cls ≠ "java/lang/invoke/MethodHandle" ∧ (yX2_shareInOrder).cls ≠ "java/lang/invoke/VarHandle" ∧ (parseMethodDescriptor (yX2_shareInOrder).desc).map (fun d => d.parameters.length) = some 3 := by decide +kernel
theorem hd_X2_takenByFields : (yX2_takenByFields).cls ≠ "java/lang/invoke/MethodHandle" ∧ (yX2_takenByFields).cls ≠ "java/lang/invoke/VarHandle" ∧ (parseMethodDescriptor (yX2_takenByFields).desc).map (fun d => d.parameters.length) = some 2 := by decide +kernel
theorem hd_X5_roomIf : (yX5_roomIf).cls ≠ "java/lang/invoke/MethodHandle" ∧ (yX5_roomIf).cls ≠ "java/lang/invoke/VarHandle" ∧ (parseMethodDescriptor (yX5_roomIf).desc).map (fun d => d.parameters.length) = some 1 := by decide +kernel
theorem hd_X2_sentDown : (yX2_sentDown).cls ≠ "java/lang/invoke/MethodHandle" ∧ (yX2_sentDown).cls ≠ "java/lang/invoke/VarHandle" ∧ (parseMethodDescriptor (yX2_sentDown).desc).map (fun d => d.parameters.length) = some 3 := by decide +kernel
theorem hd_X2_passDay : (yX2_passDay).cls ≠ "java/lang/invoke/MethodHandle" ∧ (yX2_passDay).cls ≠ "java/lang/invoke/VarHandle" ∧ (parseMethodDescriptor (yX2_passDay).desc).map (fun d => d.parameters.length) = some 1 := by decide +kernel
theorem hd_X3_init : (yX3_init).cls ≠ "java/lang/invoke/MethodHandle" ∧ (yX3_init).cls ≠ "java/lang/invoke/VarHandle" ∧ (parseMethodDescriptor (yX3_init).desc).map (fun d => d.parameters.length) = some 0 := by decide +kernel
theorem hd_X4_addAll : (yX4_addAll).cls ≠ "java/lang/invoke/MethodHandle" ∧ (yX4_addAll).cls ≠ "java/lang/invoke/VarHandle" ∧ (parseMethodDescriptor (yX4_addAll).desc).map (fun d => d.parameters.length) = some 1 := by decide +kernel
theorem hd_X5_init : (yX5_init).cls ≠ "java/lang/invoke/MethodHandle" ∧ (yX5_init).cls ≠ "java/lang/invoke/VarHandle" ∧ (parseMethodDescriptor (yX5_init).desc).map (fun d => d.parameters.length) = some 2 := by decide +kernel
theorem hd_X5_putInOrder : (yX5_putInOrder).cls ≠ "java/lang/invoke/MethodHandle" ∧ (yX5_putInOrder).cls ≠ "java/lang/invoke/VarHandle" ∧ (parseMethodDescriptor (yX5_putInOrder).desc).map (fun d => d.parameters.length) = some 2 := by decide +kernel
theorem hd_X6_init : (yX6_init).cls ≠ "java/lang/invoke/MethodHandle" ∧ (yX6_init).cls ≠ "java/lang/invoke/VarHandle" ∧ (parseMethodDescriptor (yX6_init).desc).map (fun d => d.parameters.length) = some 0 := by decide +kernel
theorem hd_X6_putByte : (yX6_putByte).cls ≠ "java/lang/invoke/MethodHandle" ∧ (yX6_putByte).cls ≠ "java/lang/invoke/VarHandle" ∧ (parseMethodDescriptor (yX6_putByte).desc).map (fun d => d.parameters.length) = some 1 := by decide +kernel
theorem hd_X6_putFour : (yX6_putFour).cls ≠ "java/lang/invoke/MethodHandle" ∧ (yX6_putFour).cls ≠ "java/lang/invoke/VarHandle" ∧ (parseMethodDescriptor (yX6_putFour).desc).map (fun d => d.parameters.length) = some 1 := by decide +kernel
theorem hd_X6_byteAt : (yX6_byteAt).cls ≠ "java/lang/invoke/MethodHandle" ∧ (yX6_byteAt).cls ≠ "java/lang/invoke/VarHandle" ∧ (parseMethodDescriptor (yX6_byteAt).desc).map (fun d => d.parameters.length) = some 1 := by decide +kernel
theorem hd_X6_isBlank : (yX6_isBlank).cls ≠ "java/lang/invoke/MethodHandle" ∧ (yX6_isBlank).cls ≠ "java/lang/invoke/VarHandle" ∧ (parseMethodDescriptor (yX6_isBlank).desc).map (fun d => d.parameters.length) = some 1 := by decide +kernel
theorem hd_X6_isLetter : (yX6_isLetter).cls ≠ "java/lang/invoke/MethodHandle" ∧ (yX6_isLetter).cls ≠ "java/lang/invoke/VarHandle" ∧ (parseMethodDescriptor (yX6_isLetter).desc).map (fun d => d.parameters.length) = some 1 := by decide +kernel
theorem hd_X6_isDigit : (yX6_isDigit).cls ≠ "java/lang/invoke/MethodHandle" ∧ (yX6_isDigit).cls ≠ "java/lang/invoke/VarHandle" ∧ (parseMethodDescriptor (yX6_isDigit).desc).map (fun d => d.parameters.length) = some 1 := by decide +kernel
theorem hd_X6_nextToken : (yX6_nextToken).cls ≠ "java/lang/invoke/MethodHandle" ∧ (yX6_nextToken).cls ≠ "java/lang/invoke/VarHandle" ∧ (parseMethodDescriptor (yX6_nextToken).desc).map (fun d => d.parameters.length) = some 0 := by decide +kernel
theorem hd_X6_isWord : (yX6_isWord).cls ≠ "java/lang/invoke/MethodHandle" ∧ (yX6_isWord).cls ≠ "java/lang/invoke/VarHandle" ∧ (parseMethodDescriptor (yX6_isWord).desc).map (fun d => d.parameters.length) = some 1 := by decide +kernel
theorem hd_X6_readFirst : (yX6_readFirst).cls ≠ "java/lang/invoke/MethodHandle" ∧ (yX6_readFirst).cls ≠ "java/lang/invoke/VarHandle" ∧ (parseMethodDescriptor (yX6_readFirst).desc).map (fun d => d.parameters.length) = some 1 := by decide +kernel
theorem hd_X6_numberHere : (yX6_numberHere).cls ≠ "java/lang/invoke/MethodHandle" ∧ (yX6_numberHere).cls ≠ "java/lang/invoke/VarHandle" ∧ (parseMethodDescriptor (yX6_numberHere).desc).map (fun d => d.parameters.length) = some 0 := by decide +kernel
theorem hd_X6_readStatement : (yX6_readStatement).cls ≠ "java/lang/invoke/MethodHandle" ∧ (yX6_readStatement).cls ≠ "java/lang/invoke/VarHandle" ∧ (parseMethodDescriptor (yX6_readStatement).desc).map (fun d => d.parameters.length) = some 1 := by decide +kernel
theorem hd_X6_faultReading : (yX6_faultReading).cls ≠ "java/lang/invoke/MethodHandle" ∧ (yX6_faultReading).cls ≠ "java/lang/invoke/VarHandle" ∧ (parseMethodDescriptor (yX6_faultReading).desc).map (fun d => d.parameters.length) = some 2 := by decide +kernel
theorem hd_X7_init : (yX7_init).cls ≠ "java/lang/invoke/MethodHandle" ∧ (yX7_init).cls ≠ "java/lang/invoke/VarHandle" ∧ (parseMethodDescriptor (yX7_init).desc).map (fun d => d.parameters.length) = some 1 := by decide +kernel
theorem hd_X7_tankAt : (yX7_tankAt).cls ≠ "java/lang/invoke/MethodHandle" ∧ (yX7_tankAt).cls ≠ "java/lang/invoke/VarHandle" ∧ (parseMethodDescriptor (yX7_tankAt).desc).map (fun d => d.parameters.length) = some 1 := by decide +kernel
theorem hd_X7_isWithin : (yX7_isWithin).cls ≠ "java/lang/invoke/MethodHandle" ∧ (yX7_isWithin).cls ≠ "java/lang/invoke/VarHandle" ∧ (parseMethodDescriptor (yX7_isWithin).desc).map (fun d => d.parameters.length) = some 3 := by decide +kernel
theorem hd_X7_tank : (yX7_tank).cls ≠ "java/lang/invoke/MethodHandle" ∧ (yX7_tank).cls ≠ "java/lang/invoke/VarHandle" ∧ (parseMethodDescriptor (yX7_tank).desc).map (fun d => d.parameters.length) = some 4 := by decide +kernel
theorem hd_X7_water : (yX7_water).cls ≠ "java/lang/invoke/MethodHandle" ∧ (yX7_water).cls ≠ "java/lang/invoke/VarHandle" ∧ (parseMethodDescriptor (yX7_water).desc).map (fun d => d.parameters.length) = some 2 := by decide +kernel
theorem hd_X7_field : (yX7_field).cls ≠ "java/lang/invoke/MethodHandle" ∧ (yX7_field).cls ≠ "java/lang/invoke/VarHandle" ∧ (parseMethodDescriptor (yX7_field).desc).map (fun d => d.parameters.length) = some 5 := by decide +kernel
theorem hd_X7_open : (yX7_open).cls ≠ "java/lang/invoke/MethodHandle" ∧ (yX7_open).cls ≠ "java/lang/invoke/VarHandle" ∧ (parseMethodDescriptor (yX7_open).desc).map (fun d => d.parameters.length) = some 2 := by decide +kernel
theorem hd_X7_mend : (yX7_mend).cls ≠ "java/lang/invoke/MethodHandle" ∧ (yX7_mend).cls ≠ "java/lang/invoke/VarHandle" ∧ (parseMethodDescriptor (yX7_mend).desc).map (fun d => d.parameters.length) = some 2 := by decide +kernel
theorem hd_X7_dredge : (yX7_dredge).cls ≠ "java/lang/invoke/MethodHandle" ∧ (yX7_dredge).cls ≠ "java/lang/invoke/VarHandle" ∧ (parseMethodDescriptor (yX7_dredge).desc).map (fun d => d.parameters.length) = some 2 := by decide +kernel
theorem hd_X7_feed : (yX7_feed).cls ≠ "java/lang/invoke/MethodHandle" ∧ (yX7_feed).cls ≠ "java/lang/invoke/VarHandle" ∧ (parseMethodDescriptor (yX7_feed).desc).map (fun d => d.parameters.length) = some 5 := by decide +kernel
theorem hd_X7_fieldAt : (yX7_fieldAt).cls ≠ "java/lang/invoke/MethodHandle" ∧ (yX7_fieldAt).cls ≠ "java/lang/invoke/VarHandle" ∧ (parseMethodDescriptor (yX7_fieldAt).desc).map (fun d => d.parameters.length) = some 1 := by decide +kernel
theorem hd_X7_orderAnew : (yX7_orderAnew).cls ≠ "java/lang/invoke/MethodHandle" ∧ (yX7_orderAnew).cls ≠ "java/lang/invoke/VarHandle" ∧ (parseMethodDescriptor (yX7_orderAnew).desc).map (fun d => d.parameters.length) = some 0 := by decide +kernel
theorem hd_X7_custom : (yX7_custom).cls ≠ "java/lang/invoke/MethodHandle" ∧ (yX7_custom).cls ≠ "java/lang/invoke/VarHandle" ∧ (parseMethodDescriptor (yX7_custom).desc).map (fun d => d.parameters.length) = some 1 := by decide +kernel
theorem hd_X7_fault : (yX7_fault).cls ≠ "java/lang/invoke/MethodHandle" ∧ (yX7_fault).cls ≠ "java/lang/invoke/VarHandle" ∧ (parseMethodDescriptor (yX7_fault).desc).map (fun d => d.parameters.length) = some 0 := by decide +kernel
theorem hd_X7_addSilt : (yX7_addSilt).cls ≠ "java/lang/invoke/MethodHandle" ∧ (yX7_addSilt).cls ≠ "java/lang/invoke/VarHandle" ∧ (parseMethodDescriptor (yX7_addSilt).desc).map (fun d => d.parameters.length) = some 0 := by decide +kernel
theorem hd_X7_keepTanks : (yX7_keepTanks).cls ≠ "java/lang/invoke/MethodHandle" ∧ (yX7_keepTanks).cls ≠ "java/lang/invoke/VarHandle" ∧ (parseMethodDescriptor (yX7_keepTanks).desc).map (fun d => d.parameters.length) = some 0 := by decide +kernel
theorem hd_X7_keepFields : (yX7_keepFields).cls ≠ "java/lang/invoke/MethodHandle" ∧ (yX7_keepFields).cls ≠ "java/lang/invoke/VarHandle" ∧ (parseMethodDescriptor (yX7_keepFields).desc).map (fun d => d.parameters.length) = some 0 := by decide +kernel
theorem hd_X7_day : (yX7_day).cls ≠ "java/lang/invoke/MethodHandle" ∧ (yX7_day).cls ≠ "java/lang/invoke/VarHandle" ∧ (parseMethodDescriptor (yX7_day).desc).map (fun d => d.parameters.length) = some 1 := by decide +kernel
theorem hd_X7_asNumber : (yX7_asNumber).cls ≠ "java/lang/invoke/MethodHandle" ∧ (yX7_asNumber).cls ≠ "java/lang/invoke/VarHandle" ∧ (parseMethodDescriptor (yX7_asNumber).desc).map (fun d => d.parameters.length) = some 1 := by decide +kernel
theorem hd_X7_told : (yX7_told).cls ≠ "java/lang/invoke/MethodHandle" ∧ (yX7_told).cls ≠ "java/lang/invoke/VarHandle" ∧ (parseMethodDescriptor (yX7_told).desc).map (fun d => d.parameters.length) = some 2 := by decide +kernel
theorem hd_X7_fieldOf : (yX7_fieldOf).cls ≠ "java/lang/invoke/MethodHandle" ∧ (yX7_fieldOf).cls ≠ "java/lang/invoke/VarHandle" ∧ (parseMethodDescriptor (yX7_fieldOf).desc).map (fun d => d.parameters.length) = some 2 := by decide +kernel
theorem hd_X7_order : (yX7_order).cls ≠ "java/lang/invoke/MethodHandle" ∧ (yX7_order).cls ≠ "java/lang/invoke/VarHandle" ∧ (parseMethodDescriptor (yX7_order).desc).map (fun d => d.parameters.length) = some 2 := by decide +kernel
theorem hd_X7_owner : (yX7_owner).cls ≠ "java/lang/invoke/MethodHandle" ∧ (yX7_owner).cls ≠ "java/lang/invoke/VarHandle" ∧ (parseMethodDescriptor (yX7_owner).desc).map (fun d => d.parameters.length) = some 1 := by decide +kernel
theorem hd_X7_mayTry : (yX7_mayTry).cls ≠ "java/lang/invoke/MethodHandle" ∧ (yX7_mayTry).cls ≠ "java/lang/invoke/VarHandle" ∧ (parseMethodDescriptor (yX7_mayTry).desc).map (fun d => d.parameters.length) = some 2 := by decide +kernel
theorem hd_X7_waterTried : (yX7_waterTried).cls ≠ "java/lang/invoke/MethodHandle" ∧ (yX7_waterTried).cls ≠ "java/lang/invoke/VarHandle" ∧ (parseMethodDescriptor (yX7_waterTried).desc).map (fun d => d.parameters.length) = some 4 := by decide +kernel
theorem hd_X7_tried : (yX7_tried).cls ≠ "java/lang/invoke/MethodHandle" ∧ (yX7_tried).cls ≠ "java/lang/invoke/VarHandle" ∧ (parseMethodDescriptor (yX7_tried).desc).map (fun d => d.parameters.length) = some 3 := by decide +kernel
theorem hd_X7_lost : (yX7_lost).cls ≠ "java/lang/invoke/MethodHandle" ∧ (yX7_lost).cls ≠ "java/lang/invoke/VarHandle" ∧ (parseMethodDescriptor (yX7_lost).desc).map (fun d => d.parameters.length) = some 4 := by decide +kernel
theorem hd_X7_openingIn : (yX7_openingIn).cls ≠ "java/lang/invoke/MethodHandle" ∧ (yX7_openingIn).cls ≠ "java/lang/invoke/VarHandle" ∧ (parseMethodDescriptor (yX7_openingIn).desc).map (fun d => d.parameters.length) = some 2 := by decide +kernel
theorem hd_X7_areasFedBy : (yX7_areasFedBy).cls ≠ "java/lang/invoke/MethodHandle" ∧ (yX7_areasFedBy).cls ≠ "java/lang/invoke/VarHandle" ∧ (parseMethodDescriptor (yX7_areasFedBy).desc).map (fun d => d.parameters.length) = some 5 := by decide +kernel
theorem hd_X7_most : (yX7_most).cls ≠ "java/lang/invoke/MethodHandle" ∧ (yX7_most).cls ≠ "java/lang/invoke/VarHandle" ∧ (parseMethodDescriptor (yX7_most).desc).map (fun d => d.parameters.length) = some 5 := by decide +kernel
theorem hd_X7_breach : (yX7_breach).cls ≠ "java/lang/invoke/MethodHandle" ∧ (yX7_breach).cls ≠ "java/lang/invoke/VarHandle" ∧ (parseMethodDescriptor (yX7_breach).desc).map (fun d => d.parameters.length) = some 1 := by decide +kernel
theorem hd_X7_allWater : (yX7_allWater).cls ≠ "java/lang/invoke/MethodHandle" ∧ (yX7_allWater).cls ≠ "java/lang/invoke/VarHandle" ∧ (parseMethodDescriptor (yX7_allWater).desc).map (fun d => d.parameters.length) = some 0 := by decide +kernel
theorem hd_X7_count : (yX7_count).cls ≠ "java/lang/invoke/MethodHandle" ∧ (yX7_count).cls ≠ "java/lang/invoke/VarHandle" ∧ (parseMethodDescriptor (yX7_count).desc).map (fun d => d.parameters.length) = some 1 := by decide +kernel
theorem hd_X8_init : (yX8_init).cls ≠ "java/lang/invoke/MethodHandle" ∧ (yX8_init).cls ≠ "java/lang/invoke/VarHandle" ∧ (parseMethodDescriptor (yX8_init).desc).map (fun d => d.parameters.length) = some 1 := by decide +kernel
theorem hd_X8_isIn : (yX8_isIn).cls ≠ "java/lang/invoke/MethodHandle" ∧ (yX8_isIn).cls ≠ "java/lang/invoke/VarHandle" ∧ (parseMethodDescriptor (yX8_isIn).desc).map (fun d => d.parameters.length) = some 3 := by decide +kernel
theorem hd_X8_one : (yX8_one).cls ≠ "java/lang/invoke/MethodHandle" ∧ (yX8_one).cls ≠ "java/lang/invoke/VarHandle" ∧ (parseMethodDescriptor (yX8_one).desc).map (fun d => d.parameters.length) = some 1 := by decide +kernel
theorem hd_X8_isTank : (yX8_isTank).cls ≠ "java/lang/invoke/MethodHandle" ∧ (yX8_isTank).cls ≠ "java/lang/invoke/VarHandle" ∧ (parseMethodDescriptor (yX8_isTank).desc).map (fun d => d.parameters.length) = some 1 := by decide +kernel
theorem hd_X8_tank : (yX8_tank).cls ≠ "java/lang/invoke/MethodHandle" ∧ (yX8_tank).cls ≠ "java/lang/invoke/VarHandle" ∧ (parseMethodDescriptor (yX8_tank).desc).map (fun d => d.parameters.length) = some 4 := by decide +kernel
theorem hd_X8_room : (yX8_room).cls ≠ "java/lang/invoke/MethodHandle" ∧ (yX8_room).cls ≠ "java/lang/invoke/VarHandle" ∧ (parseMethodDescriptor (yX8_room).desc).map (fun d => d.parameters.length) = some 2 := by decide +kernel
theorem hd_X8_water : (yX8_water).cls ≠ "java/lang/invoke/MethodHandle" ∧ (yX8_water).cls ≠ "java/lang/invoke/VarHandle" ∧ (parseMethodDescriptor (yX8_water).desc).map (fun d => d.parameters.length) = some 2 := by decide +kernel
theorem hd_X8_field : (yX8_field).cls ≠ "java/lang/invoke/MethodHandle" ∧ (yX8_field).cls ≠ "java/lang/invoke/VarHandle" ∧ (parseMethodDescriptor (yX8_field).desc).map (fun d => d.parameters.length) = some 5 := by decide +kernel
theorem hd_X8_open : (yX8_open).cls ≠ "java/lang/invoke/MethodHandle" ∧ (yX8_open).cls ≠ "java/lang/invoke/VarHandle" ∧ (parseMethodDescriptor (yX8_open).desc).map (fun d => d.parameters.length) = some 2 := by decide +kernel
theorem hd_X8_mend : (yX8_mend).cls ≠ "java/lang/invoke/MethodHandle" ∧ (yX8_mend).cls ≠ "java/lang/invoke/VarHandle" ∧ (parseMethodDescriptor (yX8_mend).desc).map (fun d => d.parameters.length) = some 2 := by decide +kernel
theorem hd_X8_dredge : (yX8_dredge).cls ≠ "java/lang/invoke/MethodHandle" ∧ (yX8_dredge).cls ≠ "java/lang/invoke/VarHandle" ∧ (parseMethodDescriptor (yX8_dredge).desc).map (fun d => d.parameters.length) = some 2 := by decide +kernel
theorem hd_X8_custom : (yX8_custom).cls ≠ "java/lang/invoke/MethodHandle" ∧ (yX8_custom).cls ≠ "java/lang/invoke/VarHandle" ∧ (parseMethodDescriptor (yX8_custom).desc).map (fun d => d.parameters.length) = some 2 := by decide +kernel
theorem hd_X8_four : (yX8_four).cls ≠ "java/lang/invoke/MethodHandle" ∧ (yX8_four).cls ≠ "java/lang/invoke/VarHandle" ∧ (parseMethodDescriptor (yX8_four).desc).map (fun d => d.parameters.length) = some 1 := by decide +kernel
theorem hd_X8_feed : (yX8_feed).cls ≠ "java/lang/invoke/MethodHandle" ∧ (yX8_feed).cls ≠ "java/lang/invoke/VarHandle" ∧ (parseMethodDescriptor (yX8_feed).desc).map (fun d => d.parameters.length) = some 5 := by decide +kernel
theorem hd_X8_blanks : (yX8_blanks).cls ≠ "java/lang/invoke/MethodHandle" ∧ (yX8_blanks).cls ≠ "java/lang/invoke/VarHandle" ∧ (parseMethodDescriptor (yX8_blanks).desc).map (fun d => d.parameters.length) = some 0 := by decide +kernel
theorem hd_X8_word : (yX8_word).cls ≠ "java/lang/invoke/MethodHandle" ∧ (yX8_word).cls ≠ "java/lang/invoke/VarHandle" ∧ (parseMethodDescriptor (yX8_word).desc).map (fun d => d.parameters.length) = some 0 := by decide +kernel
theorem hd_X8_takes : (yX8_takes).cls ≠ "java/lang/invoke/MethodHandle" ∧ (yX8_takes).cls ≠ "java/lang/invoke/VarHandle" ∧ (parseMethodDescriptor (yX8_takes).desc).map (fun d => d.parameters.length) = some 1 := by decide +kernel
theorem hd_X8_takesNumber : (yX8_takesNumber).cls ≠ "java/lang/invoke/MethodHandle" ∧ (yX8_takesNumber).cls ≠ "java/lang/invoke/VarHandle" ∧ (parseMethodDescriptor (yX8_takesNumber).desc).map (fun d => d.parameters.length) = some 0 := by decide +kernel
theorem hd_X8_statement : (yX8_statement).cls ≠ "java/lang/invoke/MethodHandle" ∧ (yX8_statement).cls ≠ "java/lang/invoke/VarHandle" ∧ (parseMethodDescriptor (yX8_statement).desc).map (fun d => d.parameters.length) = some 0 := by decide +kernel
theorem hd_X8_custom_ : (yX8_custom_).cls ≠ "java/lang/invoke/MethodHandle" ∧ (yX8_custom_).cls ≠ "java/lang/invoke/VarHandle" ∧ (parseMethodDescriptor (yX8_custom_).desc).map (fun d => d.parameters.length) = some 1 := by decide +kernel
theorem hd_X8_fault : (yX8_fault).cls ≠ "java/lang/invoke/MethodHandle" ∧ (yX8_fault).cls ≠ "java/lang/invoke/VarHandle" ∧ (parseMethodDescriptor (yX8_fault).desc).map (fun d => d.parameters.length) = some 0 := by decide +kernel
theorem hd_X8_isAhead : (yX8_isAhead).cls ≠ "java/lang/invoke/MethodHandle" ∧ (yX8_isAhead).cls ≠ "java/lang/invoke/VarHandle" ∧ (parseMethodDescriptor (yX8_isAhead).desc).map (fun d => d.parameters.length) = some 2 := by decide +kernel
theorem hd_X8_ordered : (yX8_ordered).cls ≠ "java/lang/invoke/MethodHandle" ∧ (yX8_ordered).cls ≠ "java/lang/invoke/VarHandle" ∧ (parseMethodDescriptor (yX8_ordered).desc).map (fun d => d.parameters.length) = some 1 := by decide +kernel
theorem hd_X8_order : (yX8_order).cls ≠ "java/lang/invoke/MethodHandle" ∧ (yX8_order).cls ≠ "java/lang/invoke/VarHandle" ∧ (parseMethodDescriptor (yX8_order).desc).map (fun d => d.parameters.length) = some 2 := by decide +kernel
theorem hd_X8_isBad : (yX8_isBad).cls ≠ "java/lang/invoke/MethodHandle" ∧ (yX8_isBad).cls ≠ "java/lang/invoke/VarHandle" ∧ (parseMethodDescriptor (yX8_isBad).desc).map (fun d => d.parameters.length) = some 2 := by decide +kernel
theorem hd_X8_gives : (yX8_gives).cls ≠ "java/lang/invoke/MethodHandle" ∧ (yX8_gives).cls ≠ "java/lang/invoke/VarHandle" ∧ (parseMethodDescriptor (yX8_gives).desc).map (fun d => d.parameters.length) = some 3 := by decide +kernel
theorem hd_X8_flows : (yX8_flows).cls ≠ "java/lang/invoke/MethodHandle" ∧ (yX8_flows).cls ≠ "java/lang/invoke/VarHandle" ∧ (parseMethodDescriptor (yX8_flows).desc).map (fun d => d.parameters.length) = some 5 := by decide +kernel
theorem hd_X8_day : (yX8_day).cls ≠ "java/lang/invoke/MethodHandle" ∧ (yX8_day).cls ≠ "java/lang/invoke/VarHandle" ∧ (parseMethodDescriptor (yX8_day).desc).map (fun d => d.parameters.length) = some 1 := by decide +kernel
theorem hd_X8_told : (yX8_told).cls ≠ "java/lang/invoke/MethodHandle" ∧ (yX8_told).cls ≠ "java/lang/invoke/VarHandle" ∧ (parseMethodDescriptor (yX8_told).desc).map (fun d => d.parameters.length) = some 2 := by decide +kernel
theorem hd_X8_fieldOf : (yX8_fieldOf).cls ≠ "java/lang/invoke/MethodHandle" ∧ (yX8_fieldOf).cls ≠ "java/lang/invoke/VarHandle" ∧ (parseMethodDescriptor (yX8_fieldOf).desc).map (fun d => d.parameters.length) = some 2 := by decide +kernel
theorem hd_X8_owner : (yX8_owner).cls ≠ "java/lang/invoke/MethodHandle" ∧ (yX8_owner).cls ≠ "java/lang/invoke/VarHandle" ∧ (parseMethodDescriptor (yX8_owner).desc).map (fun d => d.parameters.length) = some 1 := by decide +kernel
theorem hd_X8_tries : (yX8_tries).cls ≠ "java/lang/invoke/MethodHandle" ∧ (yX8_tries).cls ≠ "java/lang/invoke/VarHandle" ∧ (parseMethodDescriptor (yX8_tries).desc).map (fun d => d.parameters.length) = some 2 := by decide +kernel
theorem hd_X8_openings : (yX8_openings).cls ≠ "java/lang/invoke/MethodHandle" ∧ (yX8_openings).cls ≠ "java/lang/invoke/VarHandle" ∧ (parseMethodDescriptor (yX8_openings).desc).map (fun d => d.parameters.length) = some 0 := by decide +kernel
theorem hd_X8_isTrial : (yX8_isTrial).cls ≠ "java/lang/invoke/MethodHandle" ∧ (yX8_isTrial).cls ≠ "java/lang/invoke/VarHandle" ∧ (parseMethodDescriptor (yX8_isTrial).desc).map (fun d => d.parameters.length) = some 2 := by decide +kernel
theorem hd_X8_tried : (yX8_tried).cls ≠ "java/lang/invoke/MethodHandle" ∧ (yX8_tried).cls ≠ "java/lang/invoke/VarHandle" ∧ (parseMethodDescriptor (yX8_tried).desc).map (fun d => d.parameters.length) = some 3 := by decide +kernel
theorem hd_X8_lost : (yX8_lost).cls ≠ "java/lang/invoke/MethodHandle" ∧ (yX8_lost).cls ≠ "java/lang/invoke/VarHandle" ∧ (parseMethodDescriptor (yX8_lost).desc).map (fun d => d.parameters.length) = some 4 := by decide +kernel
theorem hd_X8_most : (yX8_most).cls ≠ "java/lang/invoke/MethodHandle" ∧ (yX8_most).cls ≠ "java/lang/invoke/VarHandle" ∧ (parseMethodDescriptor (yX8_most).desc).map (fun d => d.parameters.length) = some 5 := by decide +kernel
theorem hd_X8_breach : (yX8_breach).cls ≠ "java/lang/invoke/MethodHandle" ∧ (yX8_breach).cls ≠ "java/lang/invoke/VarHandle" ∧ (parseMethodDescriptor (yX8_breach).desc).map (fun d => d.parameters.length) = some 1 := by decide +kernel
theorem hd_X8_count : (yX8_count).cls ≠ "java/lang/invoke/MethodHandle" ∧ (yX8_count).cls ≠ "java/lang/invoke/VarHandle" ∧ (parseMethodDescriptor (yX8_count).desc).map (fun d => d.parameters.length) = some 1 := by decide +kernel

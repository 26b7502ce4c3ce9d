theorem wd1_0 : Cond.initialized RL ∈ TB := tb1 (List.mem_of_getElem? (i := 0) rfl) rfl
theorem wd1_1 : Cond.initialized RX11 ∈ TB := tb1 (List.mem_of_getElem? (i := 1) rfl) rfl
theorem wd1_2 : Cond.initialized RX3 ∈ TB := tb1 (List.mem_of_getElem? (i := 2) rfl) rfl
theorem wd1_3 : Cond.initialized RX2 ∈ TB := tb1 (List.mem_of_getElem? (i := 3) rfl) rfl
theorem wd1_4 : Cond.initialized RX5 ∈ TB := tb1 (List.mem_of_getElem? (i := 4) rfl) rfl
theorem wd1_5 : Cond.initialized RX4 ∈ TB := tb1 (List.mem_of_getElem? (i := 5) rfl) rfl
theorem wd1_6 : Cond.initialized RX10 ∈ TB := tb1 (List.mem_of_getElem? (i := 6) rfl) rfl
theorem wd1_7 : Cond.initialized RX0 ∈ TB := tb1 (List.mem_of_getElem? (i := 7) rfl) rfl
theorem wd1_8 : Cond.initialized RX6 ∈ TB := tb1 (List.mem_of_getElem? (i := 8) rfl) rfl
theorem wd1_9 : Cond.initialized RX1 ∈ TB := tb1 (List.mem_of_getElem? (i := 9) rfl) rfl
theorem wd1_10 : Cond.initialized RX7 ∈ TB := tb1 (List.mem_of_getElem? (i := 10) rfl) rfl
theorem wd1_11 : Cond.initialized RX8 ∈ TB := tb1 (List.mem_of_getElem? (i := 11) rfl) rfl
theorem wd1_12 : Cond.initialized RX12 ∈ TB := tb1 (List.mem_of_getElem? (i := 12) rfl) rfl
theorem wd1_13 : Cond.initialized RX9 ∈ TB := tb1 (List.mem_of_getElem? (i := 13) rfl) rfl
theorem wd1_14 : Cond.initialized RJ0 ∈ TB := tb1 (List.mem_of_getElem? (i := 14) rfl) rfl
theorem wd1_15 : Cond.initialized RJ1 ∈ TB := tb1 (List.mem_of_getElem? (i := 15) rfl) rfl
theorem wd1_16 : Cond.initialized RJ9 ∈ TB := tb1 (List.mem_of_getElem? (i := 16) rfl) rfl
theorem wd1_17 : Cond.initialized RJ2 ∈ TB := tb1 (List.mem_of_getElem? (i := 17) rfl) rfl
theorem wd1_18 : Cond.initialized RJ3 ∈ TB := tb1 (List.mem_of_getElem? (i := 18) rfl) rfl
theorem wd1_19 : Cond.initialized RJ11 ∈ TB := tb1 (List.mem_of_getElem? (i := 19) rfl) rfl
theorem wd1_20 : Cond.classLink RL 7 RX11 ∈ TB := tb1 (List.mem_of_getElem? (i := 20) rfl) rfl
theorem wd1_21 : Cond.instantiable RX11 10 ∈ TB := tb1 (List.mem_of_getElem? (i := 21) rfl) rfl
theorem wd1_22 : Cond.methodLink RL 9 yX11_init ∈ TB := tb1 (List.mem_of_getElem? (i := 22) rfl) rfl
theorem wd1_23 : Cond.instanceMethod yX11_init ∈ TB := tb1 (List.mem_of_getElem? (i := 23) rfl) rfl
theorem wd1_24 : Cond.code yX11_init cX11_init 1 Option.none ∈ TB := tb1 (List.mem_of_getElem? (i := 24) rfl) rfl
theorem wd1_25 : Cond.methodLink RX11 1 ⟨"java/lang/Object", "<init>", "()V"⟩ ∈ TB := tb1 (List.mem_of_getElem? (i := 25) rfl) rfl
theorem wd1_26 : Cond.instanceMethod ⟨"java/lang/Object", "<init>", "()V"⟩ ∈ TB := tb1 (List.mem_of_getElem? (i := 26) rfl) rfl
theorem wd1_27 : Cond.code ⟨"java/lang/Object", "<init>", "()V"⟩ object_method_1_code 1 Option.none ∈ TB := tb1 (List.mem_of_getElem? (i := 27) rfl) rfl
theorem wd1_28 : Cond.classLink RX11 7 RX3 ∈ TB := tb1 (List.mem_of_getElem? (i := 28) rfl) rfl
theorem wd1_29 : Cond.instantiable RX3 2 ∈ TB := tb1 (List.mem_of_getElem? (i := 29) rfl) rfl
theorem wd1_31 : Cond.instanceMethod yX3_init ∈ TB := tb1 (List.mem_of_getElem? (i := 31) rfl) rfl
theorem wd1_32 : Cond.code yX3_init cX3_init 1 Option.none ∈ TB := tb1 (List.mem_of_getElem? (i := 32) rfl) rfl
theorem wd1_33 : Cond.methodLink RX3 3 ⟨"java/lang/Object", "<init>", "()V"⟩ ∈ TB := tb1 (List.mem_of_getElem? (i := 33) rfl) rfl
theorem wd1_34 : Cond.fieldLink RX3 11 "WordEquations$EquationText" "characters" "[C" ∈ TB := tb1 (List.mem_of_getElem? (i := 34) rfl) rfl
theorem wd1_35 : Cond.fieldLink RX3 15 "WordEquations$EquationText" "size" "I" ∈ TB := tb1 (List.mem_of_getElem? (i := 35) rfl) rfl
theorem wd1_36 : Cond.laysFinal RX3 "WordEquations$EquationText" "characters" "[C" ∈ TB := tb1 (List.mem_of_getElem? (i := 36) rfl) rfl
theorem wd1_38 : Cond.lays RX3 "WordEquations$EquationText" "size" "I" ∈ TB := tb1 (List.mem_of_getElem? (i := 38) rfl) rfl
theorem wd1_41 : Cond.arrayClass Jvm.ClassFile.FieldType.char ∈ TB := tb1 (List.mem_of_getElem? (i := 41) rfl) rfl
theorem wd1_42 : Cond.classLink RX11 16 RX2 ∈ TB := tb1 (List.mem_of_getElem? (i := 42) rfl) rfl
theorem wd1_43 : Cond.instantiable RX2 2 ∈ TB := tb1 (List.mem_of_getElem? (i := 43) rfl) rfl
theorem wd1_45 : Cond.instanceMethod yX2_init ∈ TB := tb1 (List.mem_of_getElem? (i := 45) rfl) rfl
theorem wd1_46 : Cond.code yX2_init cX2_init 1 Option.none ∈ TB := tb1 (List.mem_of_getElem? (i := 46) rfl) rfl
theorem wd1_47 : Cond.methodLink RX2 3 ⟨"java/lang/Object", "<init>", "()V"⟩ ∈ TB := tb1 (List.mem_of_getElem? (i := 47) rfl) rfl
theorem wd1_48 : Cond.fieldLink RX2 9 "WordEquations$Equation" "left" "J" ∈ TB := tb1 (List.mem_of_getElem? (i := 48) rfl) rfl
theorem wd1_49 : Cond.fieldLink RX1 26 "WordEquations$Equation" "left" "J" ∈ TB := tb1 (List.mem_of_getElem? (i := 49) rfl) rfl
theorem wd1_50 : Cond.fieldLink RX7 39 "WordEquations$Equation" "left" "J" ∈ TB := tb1 (List.mem_of_getElem? (i := 50) rfl) rfl
theorem wd1_51 : Cond.fieldLink RX8 26 "WordEquations$Equation" "left" "J" ∈ TB := tb1 (List.mem_of_getElem? (i := 51) rfl) rfl
theorem wd1_52 : Cond.fieldLink RX4 23 "WordEquations$Equation" "left" "J" ∈ TB := tb1 (List.mem_of_getElem? (i := 52) rfl) rfl
theorem wd1_53 : Cond.fieldLink RX10 24 "WordEquations$Equation" "left" "J" ∈ TB := tb1 (List.mem_of_getElem? (i := 53) rfl) rfl
theorem wd1_54 : Cond.fieldLink RX11 148 "WordEquations$Equation" "left" "J" ∈ TB := tb1 (List.mem_of_getElem? (i := 54) rfl) rfl
theorem wd1_55 : Cond.fieldLink RX2 15 "WordEquations$Equation" "right" "J" ∈ TB := tb1 (List.mem_of_getElem? (i := 55) rfl) rfl
theorem wd1_56 : Cond.fieldLink RX1 33 "WordEquations$Equation" "right" "J" ∈ TB := tb1 (List.mem_of_getElem? (i := 56) rfl) rfl
theorem wd1_57 : Cond.fieldLink RX7 45 "WordEquations$Equation" "right" "J" ∈ TB := tb1 (List.mem_of_getElem? (i := 57) rfl) rfl
theorem wd1_58 : Cond.fieldLink RX8 30 "WordEquations$Equation" "right" "J" ∈ TB := tb1 (List.mem_of_getElem? (i := 58) rfl) rfl
theorem wd1_59 : Cond.fieldLink RX4 29 "WordEquations$Equation" "right" "J" ∈ TB := tb1 (List.mem_of_getElem? (i := 59) rfl) rfl
theorem wd1_60 : Cond.fieldLink RX10 30 "WordEquations$Equation" "right" "J" ∈ TB := tb1 (List.mem_of_getElem? (i := 60) rfl) rfl
theorem wd1_61 : Cond.fieldLink RX11 269 "WordEquations$Equation" "right" "J" ∈ TB := tb1 (List.mem_of_getElem? (i := 61) rfl) rfl
theorem wd1_62 : Cond.lays RX2 "WordEquations$Equation" "left" "J" ∈ TB := tb1 (List.mem_of_getElem? (i := 62) rfl) rfl
theorem wd1_64 : Cond.lays RX2 "WordEquations$Equation" "right" "J" ∈ TB := tb1 (List.mem_of_getElem? (i := 64) rfl) rfl
theorem wd1_67 : Cond.classLink RX11 23 RX5 ∈ TB := tb1 (List.mem_of_getElem? (i := 67) rfl) rfl
theorem wd1_68 : Cond.instantiable RX5 4 ∈ TB := tb1 (List.mem_of_getElem? (i := 68) rfl) rfl
theorem wd1_70 : Cond.instanceMethod yX5_init ∈ TB := tb1 (List.mem_of_getElem? (i := 70) rfl) rfl
theorem wd1_71 : Cond.code yX5_init cX5_init 1 Option.none ∈ TB := tb1 (List.mem_of_getElem? (i := 71) rfl) rfl
theorem wd1_72 : Cond.methodLink RX5 1 ⟨"java/lang/Object", "<init>", "()V"⟩ ∈ TB := tb1 (List.mem_of_getElem? (i := 72) rfl) rfl
theorem wd1_73 : Cond.fieldLink RX5 9 "WordEquations$LengthConstraints" "variables" "[I" ∈ TB := tb1 (List.mem_of_getElem? (i := 73) rfl) rfl
theorem wd1_74 : Cond.fieldLink RX5 13 "WordEquations$LengthConstraints" "relations" "[C" ∈ TB := tb1 (List.mem_of_getElem? (i := 74) rfl) rfl
theorem wd1_75 : Cond.fieldLink RX5 17 "WordEquations$LengthConstraints" "numbers" "[I" ∈ TB := tb1 (List.mem_of_getElem? (i := 75) rfl) rfl
theorem wd1_76 : Cond.fieldLink RX5 20 "WordEquations$LengthConstraints" "size" "I" ∈ TB := tb1 (List.mem_of_getElem? (i := 76) rfl) rfl
theorem wd1_77 : Cond.laysFinal RX5 "WordEquations$LengthConstraints" "variables" "[I" ∈ TB := tb1 (List.mem_of_getElem? (i := 77) rfl) rfl
theorem wd1_79 : Cond.laysFinal RX5 "WordEquations$LengthConstraints" "relations" "[C" ∈ TB := tb1 (List.mem_of_getElem? (i := 79) rfl) rfl
theorem wd1_81 : Cond.laysFinal RX5 "WordEquations$LengthConstraints" "numbers" "[I" ∈ TB := tb1 (List.mem_of_getElem? (i := 81) rfl) rfl
theorem wd1_83 : Cond.lays RX5 "WordEquations$LengthConstraints" "size" "I" ∈ TB := tb1 (List.mem_of_getElem? (i := 83) rfl) rfl
theorem wd1_86 : Cond.arrayClass Jvm.ClassFile.FieldType.int ∈ TB := tb1 (List.mem_of_getElem? (i := 86) rfl) rfl
theorem wd1_87 : Cond.classLink RX11 30 RX4 ∈ TB := tb1 (List.mem_of_getElem? (i := 87) rfl) rfl
theorem wd1_88 : Cond.instantiable RX4 3 ∈ TB := tb1 (List.mem_of_getElem? (i := 88) rfl) rfl
theorem wd1_90 : Cond.instanceMethod yX4_init ∈ TB := tb1 (List.mem_of_getElem? (i := 90) rfl) rfl
theorem wd1_91 : Cond.code yX4_init cX4_init 1 Option.none ∈ TB := tb1 (List.mem_of_getElem? (i := 91) rfl) rfl
theorem wd1_92 : Cond.methodLink RX4 1 ⟨"java/lang/Object", "<init>", "()V"⟩ ∈ TB := tb1 (List.mem_of_getElem? (i := 92) rfl) rfl
theorem wd1_93 : Cond.fieldLink RX4 9 "WordEquations$History" "lefts" "[J" ∈ TB := tb1 (List.mem_of_getElem? (i := 93) rfl) rfl
theorem wd1_94 : Cond.fieldLink RX4 13 "WordEquations$History" "rights" "[J" ∈ TB := tb1 (List.mem_of_getElem? (i := 94) rfl) rfl
theorem wd1_95 : Cond.fieldLink RX4 16 "WordEquations$History" "size" "I" ∈ TB := tb1 (List.mem_of_getElem? (i := 95) rfl) rfl
theorem wd1_96 : Cond.laysFinal RX4 "WordEquations$History" "lefts" "[J" ∈ TB := tb1 (List.mem_of_getElem? (i := 96) rfl) rfl
theorem wd1_98 : Cond.laysFinal RX4 "WordEquations$History" "rights" "[J" ∈ TB := tb1 (List.mem_of_getElem? (i := 98) rfl) rfl
theorem wd1_100 : Cond.lays RX4 "WordEquations$History" "size" "I" ∈ TB := tb1 (List.mem_of_getElem? (i := 100) rfl) rfl
theorem wd1_103 : Cond.arrayClass Jvm.ClassFile.FieldType.long ∈ TB := tb1 (List.mem_of_getElem? (i := 103) rfl) rfl
theorem wd1_104 : Cond.classLink RX11 37 RX10 ∈ TB := tb1 (List.mem_of_getElem? (i := 104) rfl) rfl
theorem wd1_105 : Cond.instantiable RX10 3 ∈ TB := tb1 (List.mem_of_getElem? (i := 105) rfl) rfl
theorem wd1_107 : Cond.instanceMethod yX10_init ∈ TB := tb1 (List.mem_of_getElem? (i := 107) rfl) rfl
theorem wd1_108 : Cond.code yX10_init cX10_init 1 Option.none ∈ TB := tb1 (List.mem_of_getElem? (i := 108) rfl) rfl
theorem wd1_109 : Cond.methodLink RX10 1 ⟨"java/lang/Object", "<init>", "()V"⟩ ∈ TB := tb1 (List.mem_of_getElem? (i := 109) rfl) rfl
theorem wd1_110 : Cond.fieldLink RX10 9 "WordEquations$Slots" "lefts" "[J" ∈ TB := tb1 (List.mem_of_getElem? (i := 110) rfl) rfl
theorem wd1_111 : Cond.fieldLink RX10 13 "WordEquations$Slots" "rights" "[J" ∈ TB := tb1 (List.mem_of_getElem? (i := 111) rfl) rfl
theorem wd1_112 : Cond.fieldLink RX10 16 "WordEquations$Slots" "filled" "[Z" ∈ TB := tb1 (List.mem_of_getElem? (i := 112) rfl) rfl
theorem wd1_113 : Cond.laysFinal RX10 "WordEquations$Slots" "lefts" "[J" ∈ TB := tb1 (List.mem_of_getElem? (i := 113) rfl) rfl
theorem wd1_115 : Cond.laysFinal RX10 "WordEquations$Slots" "rights" "[J" ∈ TB := tb1 (List.mem_of_getElem? (i := 115) rfl) rfl
theorem wd1_117 : Cond.laysFinal RX10 "WordEquations$Slots" "filled" "[Z" ∈ TB := tb1 (List.mem_of_getElem? (i := 117) rfl) rfl
theorem wd1_120 : Cond.arrayClass Jvm.ClassFile.FieldType.boolean ∈ TB := tb1 (List.mem_of_getElem? (i := 120) rfl) rfl
theorem wd1_121 : Cond.classLink RX11 44 RX0 ∈ TB := tb1 (List.mem_of_getElem? (i := 121) rfl) rfl
theorem wd1_122 : Cond.instantiable RX0 2 ∈ TB := tb1 (List.mem_of_getElem? (i := 122) rfl) rfl
theorem wd1_123 : Cond.methodLink RX11 46 yX0_init ∈ TB := tb1 (List.mem_of_getElem? (i := 123) rfl) rfl
theorem wd1_124 : Cond.instanceMethod yX0_init ∈ TB := tb1 (List.mem_of_getElem? (i := 124) rfl) rfl
theorem wd1_125 : Cond.code yX0_init cX0_init 1 Option.none ∈ TB := tb1 (List.mem_of_getElem? (i := 125) rfl) rfl
theorem wd1_126 : Cond.methodLink RX0 3 ⟨"java/lang/Object", "<init>", "()V"⟩ ∈ TB := tb1 (List.mem_of_getElem? (i := 126) rfl) rfl
theorem wd1_127 : Cond.fieldLink RX0 11 "WordEquations$Assignment" "letters" "[J" ∈ TB := tb1 (List.mem_of_getElem? (i := 127) rfl) rfl
theorem wd1_128 : Cond.fieldLink RX0 17 "WordEquations$Assignment" "lengths" "[I" ∈ TB := tb1 (List.mem_of_getElem? (i := 128) rfl) rfl
theorem wd1_129 : Cond.laysFinal RX0 "WordEquations$Assignment" "letters" "[J" ∈ TB := tb1 (List.mem_of_getElem? (i := 129) rfl) rfl
theorem wd1_131 : Cond.laysFinal RX0 "WordEquations$Assignment" "lengths" "[I" ∈ TB := tb1 (List.mem_of_getElem? (i := 131) rfl) rfl
theorem wd1_134 : Cond.classLink RX11 51 RX6 ∈ TB := tb1 (List.mem_of_getElem? (i := 134) rfl) rfl
theorem wd1_135 : Cond.instantiable RX6 4 ∈ TB := tb1 (List.mem_of_getElem? (i := 135) rfl) rfl
theorem wd1_136 : Cond.methodLink RX11 53 yX6_init ∈ TB := tb1 (List.mem_of_getElem? (i := 136) rfl) rfl
theorem wd1_137 : Cond.instanceMethod yX6_init ∈ TB := tb1 (List.mem_of_getElem? (i := 137) rfl) rfl
theorem wd1_138 : Cond.code yX6_init cX6_init 2 Option.none ∈ TB := tb1 (List.mem_of_getElem? (i := 138) rfl) rfl
theorem wd1_139 : Cond.methodLink RX6 3 ⟨"java/lang/Object", "<init>", "()V"⟩ ∈ TB := tb1 (List.mem_of_getElem? (i := 139) rfl) rfl
theorem wd1_140 : Cond.fieldLink RX6 18 "WordEquations$LengthEquation" "constraints" "LWordEquations$LengthConstraints;" ∈ TB := tb1 (List.mem_of_getElem? (i := 140) rfl) rfl
theorem wd1_141 : Cond.fieldLink RX6 9 "WordEquations$LengthEquation" "weights" "[I" ∈ TB := tb1 (List.mem_of_getElem? (i := 141) rfl) rfl
theorem wd1_142 : Cond.fieldLink RX6 15 "WordEquations$LengthEquation" "possible" "[I" ∈ TB := tb1 (List.mem_of_getElem? (i := 142) rfl) rfl
theorem wd1_143 : Cond.fieldLink RX6 30 "WordEquations$LengthEquation" "letterSurplus" "I" ∈ TB := tb1 (List.mem_of_getElem? (i := 143) rfl) rfl
theorem wd1_144 : Cond.laysFinal RX6 "WordEquations$LengthEquation" "constraints" "LWordEquations$LengthConstraints;" ∈ TB := tb1 (List.mem_of_getElem? (i := 144) rfl) rfl
theorem wd1_146 : Cond.laysFinal RX6 "WordEquations$LengthEquation" "weights" "[I" ∈ TB := tb1 (List.mem_of_getElem? (i := 146) rfl) rfl
theorem wd1_148 : Cond.laysFinal RX6 "WordEquations$LengthEquation" "possible" "[I" ∈ TB := tb1 (List.mem_of_getElem? (i := 148) rfl) rfl
theorem wd1_150 : Cond.lays RX6 "WordEquations$LengthEquation" "letterSurplus" "I" ∈ TB := tb1 (List.mem_of_getElem? (i := 150) rfl) rfl
theorem wd1_153 : Cond.classLink RX11 60 RX1 ∈ TB := tb1 (List.mem_of_getElem? (i := 153) rfl) rfl
theorem wd1_154 : Cond.instantiable RX1 7 ∈ TB := tb1 (List.mem_of_getElem? (i := 154) rfl) rfl
theorem wd1_155 : Cond.methodLink RX11 62 yX1_init ∈ TB := tb1 (List.mem_of_getElem? (i := 155) rfl) rfl
theorem wd1_156 : Cond.instanceMethod yX1_init ∈ TB := tb1 (List.mem_of_getElem? (i := 156) rfl) rfl
theorem wd1_157 : Cond.code yX1_init cX1_init 2 Option.none ∈ TB := tb1 (List.mem_of_getElem? (i := 157) rfl) rfl
theorem wd1_158 : Cond.methodLink RX1 3 ⟨"java/lang/Object", "<init>", "()V"⟩ ∈ TB := tb1 (List.mem_of_getElem? (i := 158) rfl) rfl
theorem wd1_159 : Cond.classLink RX1 9 RX0 ∈ TB := tb1 (List.mem_of_getElem? (i := 159) rfl) rfl
theorem wd1_160 : Cond.methodLink RX1 11 yX0_init ∈ TB := tb1 (List.mem_of_getElem? (i := 160) rfl) rfl
theorem wd1_161 : Cond.fieldLink RX1 22 "WordEquations$BoundedSolutions" "lengths" "LWordEquations$LengthEquation;" ∈ TB := tb1 (List.mem_of_getElem? (i := 161) rfl) rfl
theorem wd1_162 : Cond.fieldLink RX1 12 "WordEquations$BoundedSolutions" "assignment" "LWordEquations$Assignment;" ∈ TB := tb1 (List.mem_of_getElem? (i := 162) rfl) rfl
theorem wd1_163 : Cond.fieldLink RX1 18 "WordEquations$BoundedSolutions" "first" "[I" ∈ TB := tb1 (List.mem_of_getElem? (i := 163) rfl) rfl
theorem wd1_164 : Cond.fieldLink RX1 32 "WordEquations$BoundedSolutions" "left" "J" ∈ TB := tb1 (List.mem_of_getElem? (i := 164) rfl) rfl
theorem wd1_165 : Cond.fieldLink RX1 36 "WordEquations$BoundedSolutions" "right" "J" ∈ TB := tb1 (List.mem_of_getElem? (i := 165) rfl) rfl
theorem wd1_166 : Cond.fieldLink RX1 37 "WordEquations$BoundedSolutions" "found" "I" ∈ TB := tb1 (List.mem_of_getElem? (i := 166) rfl) rfl
theorem wd1_167 : Cond.fieldLink RX1 41 "WordEquations$BoundedSolutions" "least" "I" ∈ TB := tb1 (List.mem_of_getElem? (i := 167) rfl) rfl
theorem wd1_168 : Cond.laysFinal RX1 "WordEquations$BoundedSolutions" "lengths" "LWordEquations$LengthEquation;" ∈ TB := tb1 (List.mem_of_getElem? (i := 168) rfl) rfl
theorem wd1_170 : Cond.laysFinal RX1 "WordEquations$BoundedSolutions" "assignment" "LWordEquations$Assignment;" ∈ TB := tb1 (List.mem_of_getElem? (i := 170) rfl) rfl
theorem wd1_172 : Cond.laysFinal RX1 "WordEquations$BoundedSolutions" "first" "[I" ∈ TB := tb1 (List.mem_of_getElem? (i := 172) rfl) rfl
theorem wd1_174 : Cond.lays RX1 "WordEquations$BoundedSolutions" "left" "J" ∈ TB := tb1 (List.mem_of_getElem? (i := 174) rfl) rfl
theorem wd1_176 : Cond.lays RX1 "WordEquations$BoundedSolutions" "right" "J" ∈ TB := tb1 (List.mem_of_getElem? (i := 176) rfl) rfl
theorem wd1_178 : Cond.lays RX1 "WordEquations$BoundedSolutions" "found" "I" ∈ TB := tb1 (List.mem_of_getElem? (i := 178) rfl) rfl
theorem wd1_180 : Cond.lays RX1 "WordEquations$BoundedSolutions" "least" "I" ∈ TB := tb1 (List.mem_of_getElem? (i := 180) rfl) rfl
theorem wd1_183 : Cond.classLink RX11 69 RX7 ∈ TB := tb1 (List.mem_of_getElem? (i := 183) rfl) rfl
theorem wd1_184 : Cond.instantiable RX7 8 ∈ TB := tb1 (List.mem_of_getElem? (i := 184) rfl) rfl
theorem wd1_186 : Cond.instanceMethod yX7_init ∈ TB := tb1 (List.mem_of_getElem? (i := 186) rfl) rfl
theorem wd1_187 : Cond.code yX7_init cX7_init 1 Option.none ∈ TB := tb1 (List.mem_of_getElem? (i := 187) rfl) rfl
theorem wd1_188 : Cond.methodLink RX7 3 ⟨"java/lang/Object", "<init>", "()V"⟩ ∈ TB := tb1 (List.mem_of_getElem? (i := 188) rfl) rfl
theorem wd1_189 : Cond.fieldLink RX7 11 "WordEquations$NielsenSearch" "lefts" "[J" ∈ TB := tb1 (List.mem_of_getElem? (i := 189) rfl) rfl
theorem wd1_190 : Cond.fieldLink RX7 15 "WordEquations$NielsenSearch" "rights" "[J" ∈ TB := tb1 (List.mem_of_getElem? (i := 190) rfl) rfl
theorem wd1_191 : Cond.fieldLink RX7 18 "WordEquations$NielsenSearch" "parents" "[I" ∈ TB := tb1 (List.mem_of_getElem? (i := 191) rfl) rfl
theorem wd1_192 : Cond.fieldLink RX7 22 "WordEquations$NielsenSearch" "rules" "[I" ∈ TB := tb1 (List.mem_of_getElem? (i := 192) rfl) rfl
theorem wd1_193 : Cond.fieldLink RX7 25 "WordEquations$NielsenSearch" "depths" "[I" ∈ TB := tb1 (List.mem_of_getElem? (i := 193) rfl) rfl
theorem wd1_194 : Cond.fieldLink RX7 28 "WordEquations$NielsenSearch" "size" "I" ∈ TB := tb1 (List.mem_of_getElem? (i := 194) rfl) rfl
theorem wd1_195 : Cond.fieldLink RX7 32 "WordEquations$NielsenSearch" "solved" "I" ∈ TB := tb1 (List.mem_of_getElem? (i := 195) rfl) rfl
theorem wd1_196 : Cond.fieldLink RX7 35 "WordEquations$NielsenSearch" "dropped" "Z" ∈ TB := tb1 (List.mem_of_getElem? (i := 196) rfl) rfl
theorem wd1_197 : Cond.laysFinal RX7 "WordEquations$NielsenSearch" "lefts" "[J" ∈ TB := tb1 (List.mem_of_getElem? (i := 197) rfl) rfl
theorem wd1_199 : Cond.laysFinal RX7 "WordEquations$NielsenSearch" "rights" "[J" ∈ TB := tb1 (List.mem_of_getElem? (i := 199) rfl) rfl
theorem wd1_201 : Cond.laysFinal RX7 "WordEquations$NielsenSearch" "parents" "[I" ∈ TB := tb1 (List.mem_of_getElem? (i := 201) rfl) rfl
theorem wd1_203 : Cond.laysFinal RX7 "WordEquations$NielsenSearch" "rules" "[I" ∈ TB := tb1 (List.mem_of_getElem? (i := 203) rfl) rfl
theorem wd1_205 : Cond.laysFinal RX7 "WordEquations$NielsenSearch" "depths" "[I" ∈ TB := tb1 (List.mem_of_getElem? (i := 205) rfl) rfl
theorem wd1_207 : Cond.lays RX7 "WordEquations$NielsenSearch" "size" "I" ∈ TB := tb1 (List.mem_of_getElem? (i := 207) rfl) rfl
theorem wd1_209 : Cond.lays RX7 "WordEquations$NielsenSearch" "solved" "I" ∈ TB := tb1 (List.mem_of_getElem? (i := 209) rfl) rfl
theorem wd1_211 : Cond.lays RX7 "WordEquations$NielsenSearch" "dropped" "Z" ∈ TB := tb1 (List.mem_of_getElem? (i := 211) rfl) rfl
theorem wd1_214 : Cond.classLink RX11 76 RX8 ∈ TB := tb1 (List.mem_of_getElem? (i := 214) rfl) rfl
theorem wd1_215 : Cond.instantiable RX8 3 ∈ TB := tb1 (List.mem_of_getElem? (i := 215) rfl) rfl
theorem wd1_216 : Cond.methodLink RX11 78 yX8_init ∈ TB := tb1 (List.mem_of_getElem? (i := 216) rfl) rfl
theorem wd1_217 : Cond.instanceMethod yX8_init ∈ TB := tb1 (List.mem_of_getElem? (i := 217) rfl) rfl
theorem wd1_218 : Cond.code yX8_init cX8_init 3 Option.none ∈ TB := tb1 (List.mem_of_getElem? (i := 218) rfl) rfl
theorem wd1_219 : Cond.methodLink RX8 1 ⟨"java/lang/Object", "<init>", "()V"⟩ ∈ TB := tb1 (List.mem_of_getElem? (i := 219) rfl) rfl
theorem wd1_220 : Cond.classLink RX8 7 RX2 ∈ TB := tb1 (List.mem_of_getElem? (i := 220) rfl) rfl
theorem wd1_222 : Cond.fieldLink RX8 16 "WordEquations$Script" "solutions" "LWordEquations$BoundedSolutions;" ∈ TB := tb1 (List.mem_of_getElem? (i := 222) rfl) rfl
theorem wd1_223 : Cond.fieldLink RX8 20 "WordEquations$Script" "search" "LWordEquations$NielsenSearch;" ∈ TB := tb1 (List.mem_of_getElem? (i := 223) rfl) rfl
theorem wd1_224 : Cond.fieldLink RX8 10 "WordEquations$Script" "copy" "LWordEquations$Equation;" ∈ TB := tb1 (List.mem_of_getElem? (i := 224) rfl) rfl
theorem wd1_225 : Cond.laysFinal RX8 "WordEquations$Script" "solutions" "LWordEquations$BoundedSolutions;" ∈ TB := tb1 (List.mem_of_getElem? (i := 225) rfl) rfl
theorem wd1_227 : Cond.laysFinal RX8 "WordEquations$Script" "search" "LWordEquations$NielsenSearch;" ∈ TB := tb1 (List.mem_of_getElem? (i := 227) rfl) rfl
theorem wd1_229 : Cond.laysFinal RX8 "WordEquations$Script" "copy" "LWordEquations$Equation;" ∈ TB := tb1 (List.mem_of_getElem? (i := 229) rfl) rfl
theorem wd1_232 : Cond.fieldLink RX11 10 "WordEquations" "text" "LWordEquations$EquationText;" ∈ TB := tb1 (List.mem_of_getElem? (i := 232) rfl) rfl
theorem wd1_233 : Cond.fieldLink RX11 19 "WordEquations" "equation" "LWordEquations$Equation;" ∈ TB := tb1 (List.mem_of_getElem? (i := 233) rfl) rfl
theorem wd1_234 : Cond.fieldLink RX11 26 "WordEquations" "constraints" "LWordEquations$LengthConstraints;" ∈ TB := tb1 (List.mem_of_getElem? (i := 234) rfl) rfl
theorem wd1_235 : Cond.fieldLink RX11 33 "WordEquations" "history" "LWordEquations$History;" ∈ TB := tb1 (List.mem_of_getElem? (i := 235) rfl) rfl
theorem wd1_236 : Cond.fieldLink RX11 40 "WordEquations" "slots" "LWordEquations$Slots;" ∈ TB := tb1 (List.mem_of_getElem? (i := 236) rfl) rfl
theorem wd1_237 : Cond.fieldLink RX11 47 "WordEquations" "assignment" "LWordEquations$Assignment;" ∈ TB := tb1 (List.mem_of_getElem? (i := 237) rfl) rfl
theorem wd1_238 : Cond.fieldLink RX11 56 "WordEquations" "lengths" "LWordEquations$LengthEquation;" ∈ TB := tb1 (List.mem_of_getElem? (i := 238) rfl) rfl
theorem wd1_239 : Cond.fieldLink RX11 65 "WordEquations" "solutions" "LWordEquations$BoundedSolutions;" ∈ TB := tb1 (List.mem_of_getElem? (i := 239) rfl) rfl
theorem wd2_0 : Cond.fieldLink RX11 72 "WordEquations" "search" "LWordEquations$NielsenSearch;" ∈ TB := tb2 (List.mem_of_getElem? (i := 0) rfl) rfl
theorem wd2_1 : Cond.fieldLink RX11 81 "WordEquations" "scripts" "LWordEquations$Script;" ∈ TB := tb2 (List.mem_of_getElem? (i := 1) rfl) rfl
theorem wd2_2 : Cond.laysFinal RX11 "WordEquations" "text" "LWordEquations$EquationText;" ∈ TB := tb2 (List.mem_of_getElem? (i := 2) rfl) rfl
theorem wd2_4 : Cond.laysFinal RX11 "WordEquations" "equation" "LWordEquations$Equation;" ∈ TB := tb2 (List.mem_of_getElem? (i := 4) rfl) rfl
theorem wd2_6 : Cond.laysFinal RX11 "WordEquations" "constraints" "LWordEquations$LengthConstraints;" ∈ TB := tb2 (List.mem_of_getElem? (i := 6) rfl) rfl
theorem wd2_8 : Cond.laysFinal RX11 "WordEquations" "history" "LWordEquations$History;" ∈ TB := tb2 (List.mem_of_getElem? (i := 8) rfl) rfl
theorem wd2_10 : Cond.laysFinal RX11 "WordEquations" "slots" "LWordEquations$Slots;" ∈ TB := tb2 (List.mem_of_getElem? (i := 10) rfl) rfl
theorem wd2_12 : Cond.laysFinal RX11 "WordEquations" "assignment" "LWordEquations$Assignment;" ∈ TB := tb2 (List.mem_of_getElem? (i := 12) rfl) rfl
theorem wd2_14 : Cond.laysFinal RX11 "WordEquations" "lengths" "LWordEquations$LengthEquation;" ∈ TB := tb2 (List.mem_of_getElem? (i := 14) rfl) rfl
theorem wd2_16 : Cond.laysFinal RX11 "WordEquations" "solutions" "LWordEquations$BoundedSolutions;" ∈ TB := tb2 (List.mem_of_getElem? (i := 16) rfl) rfl
theorem wd2_18 : Cond.laysFinal RX11 "WordEquations" "search" "LWordEquations$NielsenSearch;" ∈ TB := tb2 (List.mem_of_getElem? (i := 18) rfl) rfl
theorem wd2_20 : Cond.laysFinal RX11 "WordEquations" "scripts" "LWordEquations$Script;" ∈ TB := tb2 (List.mem_of_getElem? (i := 20) rfl) rfl
theorem wd2_23 : Cond.methodLink RL 13 yX11_append ∈ TB := tb2 (List.mem_of_getElem? (i := 23) rfl) rfl
theorem wd2_24 : Cond.instanceMethod yX11_append ∈ TB := tb2 (List.mem_of_getElem? (i := 24) rfl) rfl
theorem wd2_25 : Cond.selects RX11 yX11_append yX11_append ∈ TB := tb2 (List.mem_of_getElem? (i := 25) rfl) rfl
theorem wd2_26 : Cond.code yX11_append cX11_append 2 (Option.some Jvm.ClassFile.FieldType.int) ∈ TB := tb2 (List.mem_of_getElem? (i := 26) rfl) rfl
theorem wd2_27 : Cond.methodLink RX11 85 yX3_add ∈ TB := tb2 (List.mem_of_getElem? (i := 27) rfl) rfl
theorem wd2_28 : Cond.instanceMethod yX3_add ∈ TB := tb2 (List.mem_of_getElem? (i := 28) rfl) rfl
theorem wd2_29 : Cond.selects RX3 yX3_add yX3_add ∈ TB := tb2 (List.mem_of_getElem? (i := 29) rfl) rfl
theorem wd2_30 : Cond.code yX3_add cX3_add 2 (Option.some Jvm.ClassFile.FieldType.boolean) ∈ TB := tb2 (List.mem_of_getElem? (i := 30) rfl) rfl
theorem wd2_31 : Cond.methodLink RX11 89 yX3_size ∈ TB := tb2 (List.mem_of_getElem? (i := 31) rfl) rfl
theorem wd2_32 : Cond.instanceMethod yX3_size ∈ TB := tb2 (List.mem_of_getElem? (i := 32) rfl) rfl
theorem wd2_33 : Cond.selects RX3 yX3_size yX3_size ∈ TB := tb2 (List.mem_of_getElem? (i := 33) rfl) rfl
theorem wd2_34 : Cond.code yX3_size cX3_size 1 (Option.some Jvm.ClassFile.FieldType.int) ∈ TB := tb2 (List.mem_of_getElem? (i := 34) rfl) rfl
theorem wd2_35 : Cond.methodLink RL 18 yX11_clearText ∈ TB := tb2 (List.mem_of_getElem? (i := 35) rfl) rfl
theorem wd2_36 : Cond.instanceMethod yX11_clearText ∈ TB := tb2 (List.mem_of_getElem? (i := 36) rfl) rfl
theorem wd2_37 : Cond.selects RX11 yX11_clearText yX11_clearText ∈ TB := tb2 (List.mem_of_getElem? (i := 37) rfl) rfl
theorem wd2_38 : Cond.code yX11_clearText cX11_clearText 2 (Option.some Jvm.ClassFile.FieldType.int) ∈ TB := tb2 (List.mem_of_getElem? (i := 38) rfl) rfl
theorem wd2_39 : Cond.methodLink RX11 93 yX3_empty ∈ TB := tb2 (List.mem_of_getElem? (i := 39) rfl) rfl
theorem wd2_40 : Cond.instanceMethod yX3_empty ∈ TB := tb2 (List.mem_of_getElem? (i := 40) rfl) rfl
theorem wd2_41 : Cond.selects RX3 yX3_empty yX3_empty ∈ TB := tb2 (List.mem_of_getElem? (i := 41) rfl) rfl
theorem wd2_42 : Cond.code yX3_empty cX3_empty 1 Option.none ∈ TB := tb2 (List.mem_of_getElem? (i := 42) rfl) rfl
theorem wd2_43 : Cond.methodLink RL 23 yX11_errorPosition ∈ TB := tb2 (List.mem_of_getElem? (i := 43) rfl) rfl
theorem wd2_44 : Cond.instanceMethod yX11_errorPosition ∈ TB := tb2 (List.mem_of_getElem? (i := 44) rfl) rfl
theorem wd2_45 : Cond.selects RX11 yX11_errorPosition yX11_errorPosition ∈ TB := tb2 (List.mem_of_getElem? (i := 45) rfl) rfl
theorem wd2_46 : Cond.code yX11_errorPosition cX11_errorPosition 1 (Option.some Jvm.ClassFile.FieldType.int) ∈ TB := tb2 (List.mem_of_getElem? (i := 46) rfl) rfl
theorem wd2_47 : Cond.methodLink RX11 96 yX3_firstError ∈ TB := tb2 (List.mem_of_getElem? (i := 47) rfl) rfl
theorem wd2_48 : Cond.instanceMethod yX3_firstError ∈ TB := tb2 (List.mem_of_getElem? (i := 48) rfl) rfl
theorem wd2_49 : Cond.selects RX3 yX3_firstError yX3_firstError ∈ TB := tb2 (List.mem_of_getElem? (i := 49) rfl) rfl
theorem wd2_50 : Cond.code yX3_firstError cX3_firstError 5 (Option.some Jvm.ClassFile.FieldType.int) ∈ TB := tb2 (List.mem_of_getElem? (i := 50) rfl) rfl
theorem wd2_51 : Cond.methodLink RX3 33 yX3_endOfSide ∈ TB := tb2 (List.mem_of_getElem? (i := 51) rfl) rfl
theorem wd2_53 : Cond.instanceMethod yX3_endOfSide ∈ TB := tb2 (List.mem_of_getElem? (i := 53) rfl) rfl
theorem wd2_54 : Cond.code yX3_endOfSide cX3_endOfSide 3 (Option.some Jvm.ClassFile.FieldType.int) ∈ TB := tb2 (List.mem_of_getElem? (i := 54) rfl) rfl
theorem wd2_55 : Cond.methodLink RX3 19 yX3_at ∈ TB := tb2 (List.mem_of_getElem? (i := 55) rfl) rfl
theorem wd2_57 : Cond.instanceMethod yX3_at ∈ TB := tb2 (List.mem_of_getElem? (i := 57) rfl) rfl
theorem wd2_58 : Cond.code yX3_at cX3_at 2 (Option.some Jvm.ClassFile.FieldType.char) ∈ TB := tb2 (List.mem_of_getElem? (i := 58) rfl) rfl
theorem wd2_59 : Cond.methodLink RX3 23 yX9_symbolOf ∈ TB := tb2 (List.mem_of_getElem? (i := 59) rfl) rfl
theorem wd2_60 : Cond.static yX9_symbolOf ∈ TB := tb2 (List.mem_of_getElem? (i := 60) rfl) rfl
theorem wd2_61 : Cond.code yX9_symbolOf cX9_symbolOf 1 (Option.some Jvm.ClassFile.FieldType.int) ∈ TB := tb2 (List.mem_of_getElem? (i := 61) rfl) rfl
theorem wd2_63 : Cond.methodLink RX9 13 yJ0_indexOf_0f7a4 ∈ TB := tb2 (List.mem_of_getElem? (i := 63) rfl) rfl
theorem wd2_64 : Cond.instanceMethod yJ0_indexOf_0f7a4 ∈ TB := tb2 (List.mem_of_getElem? (i := 64) rfl) rfl
theorem wd2_65 : Cond.selects RJ0 yJ0_indexOf_0f7a4 yJ0_indexOf_0f7a4 ∈ TB := tb2 (List.mem_of_getElem? (i := 65) rfl) rfl
theorem wd2_66 : Cond.code yJ0_indexOf_0f7a4 cJ0_indexOf_0f7a4 2 (Option.some Jvm.ClassFile.FieldType.int) ∈ TB := tb2 (List.mem_of_getElem? (i := 66) rfl) rfl
theorem wd2_67 : Cond.methodLink RJ0 633 yJ0_indexOf_7cf53 ∈ TB := tb2 (List.mem_of_getElem? (i := 67) rfl) rfl
theorem wd2_68 : Cond.instanceMethod yJ0_indexOf_7cf53 ∈ TB := tb2 (List.mem_of_getElem? (i := 68) rfl) rfl
theorem wd2_69 : Cond.selects RJ0 yJ0_indexOf_7cf53 yJ0_indexOf_7cf53 ∈ TB := tb2 (List.mem_of_getElem? (i := 69) rfl) rfl
theorem wd2_70 : Cond.code yJ0_indexOf_7cf53 cJ0_indexOf_7cf53 3 (Option.some Jvm.ClassFile.FieldType.int) ∈ TB := tb2 (List.mem_of_getElem? (i := 70) rfl) rfl
theorem wd2_71 : Cond.methodLink RJ0 492 yJ0_isLatin1_aae02 ∈ TB := tb2 (List.mem_of_getElem? (i := 71) rfl) rfl
theorem wd2_72 : Cond.instanceMethod yJ0_isLatin1_aae02 ∈ TB := tb2 (List.mem_of_getElem? (i := 72) rfl) rfl
theorem wd2_73 : Cond.selects RJ0 yJ0_isLatin1_aae02 yJ0_isLatin1_aae02 ∈ TB := tb2 (List.mem_of_getElem? (i := 73) rfl) rfl
theorem wd2_74 : Cond.code yJ0_isLatin1_aae02 cJ0_isLatin1_aae02 1 (Option.some Jvm.ClassFile.FieldType.boolean) ∈ TB := tb2 (List.mem_of_getElem? (i := 74) rfl) rfl
theorem wd2_75 : Cond.fieldLink RJ0 38 "java/lang/String" "COMPACT_STRINGS" "Z" ∈ TB := tb2 (List.mem_of_getElem? (i := 75) rfl) rfl
theorem wd2_77 : Cond.methodLink RJ0 505 yJ0_length_8abf5 ∈ TB := tb2 (List.mem_of_getElem? (i := 77) rfl) rfl
theorem wd2_78 : Cond.instanceMethod yJ0_length_8abf5 ∈ TB := tb2 (List.mem_of_getElem? (i := 78) rfl) rfl
theorem wd2_79 : Cond.selects RJ0 yJ0_length_8abf5 yJ0_length_8abf5 ∈ TB := tb2 (List.mem_of_getElem? (i := 79) rfl) rfl
theorem wd2_80 : Cond.code yJ0_length_8abf5 cJ0_length_8abf5 1 (Option.some Jvm.ClassFile.FieldType.int) ∈ TB := tb2 (List.mem_of_getElem? (i := 80) rfl) rfl
theorem wd2_81 : Cond.methodLink RJ0 335 yJ0_coder_7d493 ∈ TB := tb2 (List.mem_of_getElem? (i := 81) rfl) rfl
theorem wd2_82 : Cond.instanceMethod yJ0_coder_7d493 ∈ TB := tb2 (List.mem_of_getElem? (i := 82) rfl) rfl
theorem wd2_83 : Cond.selects RJ0 yJ0_coder_7d493 yJ0_coder_7d493 ∈ TB := tb2 (List.mem_of_getElem? (i := 83) rfl) rfl
theorem wd2_84 : Cond.code yJ0_coder_7d493 cJ0_coder_7d493 1 (Option.some Jvm.ClassFile.FieldType.byte) ∈ TB := tb2 (List.mem_of_getElem? (i := 84) rfl) rfl
theorem wd2_85 : Cond.methodLink RJ0 637 yJ1_indexOf_4cfef ∈ TB := tb2 (List.mem_of_getElem? (i := 85) rfl) rfl
theorem wd2_86 : Cond.static yJ1_indexOf_4cfef ∈ TB := tb2 (List.mem_of_getElem? (i := 86) rfl) rfl
theorem wd2_87 : Cond.code yJ1_indexOf_4cfef cJ1_indexOf_4cfef 4 (Option.some Jvm.ClassFile.FieldType.int) ∈ TB := tb2 (List.mem_of_getElem? (i := 87) rfl) rfl
theorem wd2_88 : Cond.methodLink RJ1 88 yJ1_canEncode_9a6ad ∈ TB := tb2 (List.mem_of_getElem? (i := 88) rfl) rfl
theorem wd2_89 : Cond.static yJ1_canEncode_9a6ad ∈ TB := tb2 (List.mem_of_getElem? (i := 89) rfl) rfl
theorem wd2_90 : Cond.code yJ1_canEncode_9a6ad cJ1_canEncode_9a6ad 1 (Option.some Jvm.ClassFile.FieldType.boolean) ∈ TB := tb2 (List.mem_of_getElem? (i := 90) rfl) rfl
theorem wd2_91 : Cond.methodLink RJ1 92 yJ9_max_7cf53 ∈ TB := tb2 (List.mem_of_getElem? (i := 91) rfl) rfl
theorem wd2_92 : Cond.static yJ9_max_7cf53 ∈ TB := tb2 (List.mem_of_getElem? (i := 92) rfl) rfl
theorem wd2_93 : Cond.code yJ9_max_7cf53 cJ9_max_7cf53 2 (Option.some Jvm.ClassFile.FieldType.int) ∈ TB := tb2 (List.mem_of_getElem? (i := 93) rfl) rfl
theorem wd2_94 : Cond.methodLink RJ1 38 yJ9_min_7cf53 ∈ TB := tb2 (List.mem_of_getElem? (i := 94) rfl) rfl
theorem wd2_95 : Cond.static yJ9_min_7cf53 ∈ TB := tb2 (List.mem_of_getElem? (i := 95) rfl) rfl
theorem wd2_96 : Cond.code yJ9_min_7cf53 cJ9_min_7cf53 2 (Option.some Jvm.ClassFile.FieldType.int) ∈ TB := tb2 (List.mem_of_getElem? (i := 96) rfl) rfl
theorem wd2_97 : Cond.methodLink RJ1 95 yJ1_indexOfChar_4cfef ∈ TB := tb2 (List.mem_of_getElem? (i := 97) rfl) rfl
theorem wd2_98 : Cond.static yJ1_indexOfChar_4cfef ∈ TB := tb2 (List.mem_of_getElem? (i := 98) rfl) rfl
theorem wd2_99 : Cond.code yJ1_indexOfChar_4cfef cJ1_indexOfChar_4cfef 6 (Option.some Jvm.ClassFile.FieldType.int) ∈ TB := tb2 (List.mem_of_getElem? (i := 99) rfl) rfl
theorem wd2_100 : Cond.methodLink RJ0 640 yJ2_indexOf_4cfef ∈ TB := tb2 (List.mem_of_getElem? (i := 100) rfl) rfl
theorem wd2_101 : Cond.static yJ2_indexOf_4cfef ∈ TB := tb2 (List.mem_of_getElem? (i := 101) rfl) rfl
theorem wd2_102 : Cond.code yJ2_indexOf_4cfef cJ2_indexOf_4cfef 4 (Option.some Jvm.ClassFile.FieldType.int) ∈ TB := tb2 (List.mem_of_getElem? (i := 102) rfl) rfl
theorem wd2_103 : Cond.methodLink RJ2 224 yJ9_max_7cf53 ∈ TB := tb2 (List.mem_of_getElem? (i := 103) rfl) rfl
theorem wd2_104 : Cond.methodLink RJ2 183 yJ9_min_7cf53 ∈ TB := tb2 (List.mem_of_getElem? (i := 104) rfl) rfl
theorem wd2_105 : Cond.constant RJ2 227 65536 ∈ TB := tb2 (List.mem_of_getElem? (i := 105) rfl) rfl
theorem wd2_106 : Cond.methodLink RJ2 228 yJ2_indexOfChar_4cfef ∈ TB := tb2 (List.mem_of_getElem? (i := 106) rfl) rfl
theorem wd2_107 : Cond.static yJ2_indexOfChar_4cfef ∈ TB := tb2 (List.mem_of_getElem? (i := 107) rfl) rfl
theorem wd2_108 : Cond.code yJ2_indexOfChar_4cfef cJ2_indexOfChar_4cfef 4 (Option.some Jvm.ClassFile.FieldType.int) ∈ TB := tb2 (List.mem_of_getElem? (i := 108) rfl) rfl
theorem wd2_109 : Cond.methodLink RJ2 96 yJ2_checkBoundsBeginEnd_d044e ∈ TB := tb2 (List.mem_of_getElem? (i := 109) rfl) rfl
theorem wd2_110 : Cond.static yJ2_checkBoundsBeginEnd_d044e ∈ TB := tb2 (List.mem_of_getElem? (i := 110) rfl) rfl
theorem wd2_111 : Cond.code yJ2_checkBoundsBeginEnd_d044e cJ2_checkBoundsBeginEnd_d044e 3 Option.none ∈ TB := tb2 (List.mem_of_getElem? (i := 111) rfl) rfl
theorem wd2_112 : Cond.methodLink RJ2 48 yJ2_length_9d52b ∈ TB := tb2 (List.mem_of_getElem? (i := 112) rfl) rfl
theorem wd2_113 : Cond.static yJ2_length_9d52b ∈ TB := tb2 (List.mem_of_getElem? (i := 113) rfl) rfl
theorem wd2_114 : Cond.code yJ2_length_9d52b cJ2_length_9d52b 1 (Option.some Jvm.ClassFile.FieldType.int) ∈ TB := tb2 (List.mem_of_getElem? (i := 114) rfl) rfl
theorem wd2_115 : Cond.methodLink RJ2 241 yJ0_checkBoundsBeginEnd_23922 ∈ TB := tb2 (List.mem_of_getElem? (i := 115) rfl) rfl
theorem wd2_116 : Cond.static yJ0_checkBoundsBeginEnd_23922 ∈ TB := tb2 (List.mem_of_getElem? (i := 116) rfl) rfl
theorem wd2_117 : Cond.code yJ0_checkBoundsBeginEnd_23922 cJ0_checkBoundsBeginEnd_23922 3 Option.none ∈ TB := tb2 (List.mem_of_getElem? (i := 117) rfl) rfl
theorem wd2_118 : Cond.fieldLink RJ0 1053 "jdk/internal/util/Preconditions" "SIOOBE_FORMATTER" "Ljava/util/function/BiFunction;" ∈ TB := tb2 (List.mem_of_getElem? (i := 118) rfl) rfl
theorem wd2_120 : Cond.methodLink RJ0 1062 yJ3_checkFromToIndex_8c36e ∈ TB := tb2 (List.mem_of_getElem? (i := 120) rfl) rfl
theorem wd2_121 : Cond.static yJ3_checkFromToIndex_8c36e ∈ TB := tb2 (List.mem_of_getElem? (i := 121) rfl) rfl
theorem wd2_122 : Cond.code yJ3_checkFromToIndex_8c36e cJ3_checkFromToIndex_8c36e 4 (Option.some Jvm.ClassFile.FieldType.int) ∈ TB := tb2 (List.mem_of_getElem? (i := 122) rfl) rfl
theorem wd2_123 : Cond.methodLink RJ2 244 yJ2_indexOfCharUnsafe_4cfef ∈ TB := tb2 (List.mem_of_getElem? (i := 123) rfl) rfl
theorem wd2_124 : Cond.static yJ2_indexOfCharUnsafe_4cfef ∈ TB := tb2 (List.mem_of_getElem? (i := 124) rfl) rfl
theorem wd2_125 : Cond.code yJ2_indexOfCharUnsafe_4cfef cJ2_indexOfCharUnsafe_4cfef 5 (Option.some Jvm.ClassFile.FieldType.int) ∈ TB := tb2 (List.mem_of_getElem? (i := 125) rfl) rfl
theorem wd2_126 : Cond.methodLink RJ2 71 yJ2_getChar_3b067 ∈ TB := tb2 (List.mem_of_getElem? (i := 126) rfl) rfl
theorem wd2_127 : Cond.static yJ2_getChar_3b067 ∈ TB := tb2 (List.mem_of_getElem? (i := 127) rfl) rfl
theorem wd2_128 : Cond.code yJ2_getChar_3b067 cJ2_getChar_3b067 2 (Option.some Jvm.ClassFile.FieldType.char) ∈ TB := tb2 (List.mem_of_getElem? (i := 128) rfl) rfl
theorem wd2_129 : Cond.fieldLink RJ2 44 "java/lang/StringUTF16" "$assertionsDisabled" "Z" ∈ TB := tb2 (List.mem_of_getElem? (i := 129) rfl) rfl
theorem wd2_131 : Cond.fieldLink RJ2 59 "java/lang/StringUTF16" "HI_BYTE_SHIFT" "I" ∈ TB := tb2 (List.mem_of_getElem? (i := 131) rfl) rfl
theorem wd2_133 : Cond.fieldLink RJ2 63 "java/lang/StringUTF16" "LO_BYTE_SHIFT" "I" ∈ TB := tb2 (List.mem_of_getElem? (i := 133) rfl) rfl
theorem wd2_135 : Cond.methodLink RJ2 232 yJ2_indexOfSupplementary_4cfef ∈ TB := tb2 (List.mem_of_getElem? (i := 135) rfl) rfl
theorem wd2_136 : Cond.static yJ2_indexOfSupplementary_4cfef ∈ TB := tb2 (List.mem_of_getElem? (i := 136) rfl) rfl
theorem wd2_137 : Cond.code yJ2_indexOfSupplementary_4cfef cJ2_indexOfSupplementary_4cfef 7 (Option.some Jvm.ClassFile.FieldType.int) ∈ TB := tb2 (List.mem_of_getElem? (i := 137) rfl) rfl
theorem wd2_138 : Cond.methodLink RJ2 164 yJ11_isValidCodePoint_9a6ad ∈ TB := tb2 (List.mem_of_getElem? (i := 138) rfl) rfl
theorem wd2_139 : Cond.static yJ11_isValidCodePoint_9a6ad ∈ TB := tb2 (List.mem_of_getElem? (i := 139) rfl) rfl
theorem wd2_140 : Cond.code yJ11_isValidCodePoint_9a6ad cJ11_isValidCodePoint_9a6ad 2 (Option.some Jvm.ClassFile.FieldType.boolean) ∈ TB := tb2 (List.mem_of_getElem? (i := 140) rfl) rfl
theorem wd2_141 : Cond.methodLink RJ2 157 yJ11_highSurrogate_5068e ∈ TB := tb2 (List.mem_of_getElem? (i := 141) rfl) rfl
theorem wd2_142 : Cond.static yJ11_highSurrogate_5068e ∈ TB := tb2 (List.mem_of_getElem? (i := 142) rfl) rfl
theorem wd2_143 : Cond.code yJ11_highSurrogate_5068e cJ11_highSurrogate_5068e 1 (Option.some Jvm.ClassFile.FieldType.char) ∈ TB := tb2 (List.mem_of_getElem? (i := 143) rfl) rfl
theorem wd2_144 : Cond.constant RJ11 110 55232 ∈ TB := tb2 (List.mem_of_getElem? (i := 144) rfl) rfl
theorem wd2_145 : Cond.methodLink RJ2 161 yJ11_lowSurrogate_5068e ∈ TB := tb2 (List.mem_of_getElem? (i := 145) rfl) rfl
theorem wd2_146 : Cond.static yJ11_lowSurrogate_5068e ∈ TB := tb2 (List.mem_of_getElem? (i := 146) rfl) rfl
theorem wd2_147 : Cond.code yJ11_lowSurrogate_5068e cJ11_lowSurrogate_5068e 1 (Option.some Jvm.ClassFile.FieldType.char) ∈ TB := tb2 (List.mem_of_getElem? (i := 147) rfl) rfl
theorem wd2_148 : Cond.constant RJ11 76 56320 ∈ TB := tb2 (List.mem_of_getElem? (i := 148) rfl) rfl
theorem wd2_149 : Cond.methodLink RX3 39 yX3_fits ∈ TB := tb2 (List.mem_of_getElem? (i := 149) rfl) rfl
theorem wd2_150 : Cond.static yX3_fits ∈ TB := tb2 (List.mem_of_getElem? (i := 150) rfl) rfl
theorem wd2_151 : Cond.code yX3_fits cX3_fits 2 (Option.some Jvm.ClassFile.FieldType.boolean) ∈ TB := tb2 (List.mem_of_getElem? (i := 151) rfl) rfl
theorem wd2_152 : Cond.methodLink RX3 43 yX9_isVariableSymbol ∈ TB := tb2 (List.mem_of_getElem? (i := 152) rfl) rfl
theorem wd2_153 : Cond.static yX9_isVariableSymbol ∈ TB := tb2 (List.mem_of_getElem? (i := 153) rfl) rfl
theorem wd2_154 : Cond.code yX9_isVariableSymbol cX9_isVariableSymbol 1 (Option.some Jvm.ClassFile.FieldType.boolean) ∈ TB := tb2 (List.mem_of_getElem? (i := 154) rfl) rfl
theorem wd2_155 : Cond.arrayClass Jvm.ClassFile.FieldType.byte ∈ TB := tb2 (List.mem_of_getElem? (i := 155) rfl) rfl
theorem wd2_156 : Cond.methodLink RL 27 yX11_load ∈ TB := tb2 (List.mem_of_getElem? (i := 156) rfl) rfl
theorem wd2_157 : Cond.instanceMethod yX11_load ∈ TB := tb2 (List.mem_of_getElem? (i := 157) rfl) rfl
theorem wd2_158 : Cond.selects RX11 yX11_load yX11_load ∈ TB := tb2 (List.mem_of_getElem? (i := 158) rfl) rfl
theorem wd2_159 : Cond.code yX11_load cX11_load 1 (Option.some Jvm.ClassFile.FieldType.int) ∈ TB := tb2 (List.mem_of_getElem? (i := 159) rfl) rfl
theorem wd2_160 : Cond.methodLink RX11 99 yX3_readEquation ∈ TB := tb2 (List.mem_of_getElem? (i := 160) rfl) rfl
theorem wd2_161 : Cond.instanceMethod yX3_readEquation ∈ TB := tb2 (List.mem_of_getElem? (i := 161) rfl) rfl
theorem wd2_162 : Cond.selects RX3 yX3_readEquation yX3_readEquation ∈ TB := tb2 (List.mem_of_getElem? (i := 162) rfl) rfl
theorem wd2_163 : Cond.code yX3_readEquation cX3_readEquation 3 Option.none ∈ TB := tb2 (List.mem_of_getElem? (i := 163) rfl) rfl
theorem wd2_164 : Cond.methodLink RX3 47 yX3_packed ∈ TB := tb2 (List.mem_of_getElem? (i := 164) rfl) rfl
theorem wd2_165 : Cond.instanceMethod yX3_packed ∈ TB := tb2 (List.mem_of_getElem? (i := 165) rfl) rfl
theorem wd2_166 : Cond.selects RX3 yX3_packed yX3_packed ∈ TB := tb2 (List.mem_of_getElem? (i := 166) rfl) rfl
theorem wd2_167 : Cond.code yX3_packed cX3_packed 6 (Option.some Jvm.ClassFile.FieldType.long) ∈ TB := tb2 (List.mem_of_getElem? (i := 167) rfl) rfl
theorem wd2_168 : Cond.methodLink RX3 29 yX9_one ∈ TB := tb2 (List.mem_of_getElem? (i := 168) rfl) rfl
theorem wd2_169 : Cond.static yX9_one ∈ TB := tb2 (List.mem_of_getElem? (i := 169) rfl) rfl
theorem wd2_170 : Cond.code yX9_one cX9_one 2 (Option.some Jvm.ClassFile.FieldType.long) ∈ TB := tb2 (List.mem_of_getElem? (i := 170) rfl) rfl
theorem wd2_171 : Cond.methodLink RX3 50 yX2_set ∈ TB := tb2 (List.mem_of_getElem? (i := 171) rfl) rfl
theorem wd2_172 : Cond.instanceMethod yX2_set ∈ TB := tb2 (List.mem_of_getElem? (i := 172) rfl) rfl
theorem wd2_173 : Cond.selects RX2 yX2_set yX2_set ∈ TB := tb2 (List.mem_of_getElem? (i := 173) rfl) rfl
theorem wd2_174 : Cond.code yX2_set cX2_set 5 Option.none ∈ TB := tb2 (List.mem_of_getElem? (i := 174) rfl) rfl
theorem wd2_175 : Cond.methodLink RX11 103 yX3_readConstraints ∈ TB := tb2 (List.mem_of_getElem? (i := 175) rfl) rfl
theorem wd2_176 : Cond.instanceMethod yX3_readConstraints ∈ TB := tb2 (List.mem_of_getElem? (i := 176) rfl) rfl
theorem wd2_177 : Cond.selects RX3 yX3_readConstraints yX3_readConstraints ∈ TB := tb2 (List.mem_of_getElem? (i := 177) rfl) rfl
theorem wd2_178 : Cond.code yX3_readConstraints cX3_readConstraints 5 Option.none ∈ TB := tb2 (List.mem_of_getElem? (i := 178) rfl) rfl
theorem wd2_179 : Cond.methodLink RX3 56 yX5_empty ∈ TB := tb2 (List.mem_of_getElem? (i := 179) rfl) rfl
theorem wd2_180 : Cond.instanceMethod yX5_empty ∈ TB := tb2 (List.mem_of_getElem? (i := 180) rfl) rfl
theorem wd2_181 : Cond.selects RX5 yX5_empty yX5_empty ∈ TB := tb2 (List.mem_of_getElem? (i := 181) rfl) rfl
theorem wd2_182 : Cond.code yX5_empty cX5_empty 1 Option.none ∈ TB := tb2 (List.mem_of_getElem? (i := 182) rfl) rfl
theorem wd2_183 : Cond.methodLink RX3 59 yX5_add ∈ TB := tb2 (List.mem_of_getElem? (i := 183) rfl) rfl
theorem wd2_184 : Cond.instanceMethod yX5_add ∈ TB := tb2 (List.mem_of_getElem? (i := 184) rfl) rfl
theorem wd2_185 : Cond.selects RX5 yX5_add yX5_add ∈ TB := tb2 (List.mem_of_getElem? (i := 185) rfl) rfl
theorem wd2_186 : Cond.code yX5_add cX5_add 4 Option.none ∈ TB := tb2 (List.mem_of_getElem? (i := 186) rfl) rfl
theorem wd2_187 : Cond.methodLink RX11 106 yX4_forget ∈ TB := tb2 (List.mem_of_getElem? (i := 187) rfl) rfl
theorem wd2_188 : Cond.instanceMethod yX4_forget ∈ TB := tb2 (List.mem_of_getElem? (i := 188) rfl) rfl
theorem wd2_189 : Cond.selects RX4 yX4_forget yX4_forget ∈ TB := tb2 (List.mem_of_getElem? (i := 189) rfl) rfl
theorem wd2_190 : Cond.code yX4_forget cX4_forget 1 Option.none ∈ TB := tb2 (List.mem_of_getElem? (i := 190) rfl) rfl
theorem wd2_191 : Cond.methodLink RX11 109 yX10_empty ∈ TB := tb2 (List.mem_of_getElem? (i := 191) rfl) rfl
theorem wd2_192 : Cond.instanceMethod yX10_empty ∈ TB := tb2 (List.mem_of_getElem? (i := 192) rfl) rfl
theorem wd2_193 : Cond.selects RX10 yX10_empty yX10_empty ∈ TB := tb2 (List.mem_of_getElem? (i := 193) rfl) rfl
theorem wd2_194 : Cond.code yX10_empty cX10_empty 2 Option.none ∈ TB := tb2 (List.mem_of_getElem? (i := 194) rfl) rfl
theorem wd2_195 : Cond.methodLink RX11 110 yX5_size ∈ TB := tb2 (List.mem_of_getElem? (i := 195) rfl) rfl
theorem wd2_196 : Cond.instanceMethod yX5_size ∈ TB := tb2 (List.mem_of_getElem? (i := 196) rfl) rfl
theorem wd2_197 : Cond.selects RX5 yX5_size yX5_size ∈ TB := tb2 (List.mem_of_getElem? (i := 197) rfl) rfl
theorem wd2_198 : Cond.code yX5_size cX5_size 1 (Option.some Jvm.ClassFile.FieldType.int) ∈ TB := tb2 (List.mem_of_getElem? (i := 198) rfl) rfl
theorem wd2_199 : Cond.methodLink RL 31 yX11_sideLength ∈ TB := tb2 (List.mem_of_getElem? (i := 199) rfl) rfl
theorem wd2_200 : Cond.instanceMethod yX11_sideLength ∈ TB := tb2 (List.mem_of_getElem? (i := 200) rfl) rfl
theorem wd2_201 : Cond.selects RX11 yX11_sideLength yX11_sideLength ∈ TB := tb2 (List.mem_of_getElem? (i := 201) rfl) rfl
theorem wd2_202 : Cond.code yX11_sideLength cX11_sideLength 2 (Option.some Jvm.ClassFile.FieldType.int) ∈ TB := tb2 (List.mem_of_getElem? (i := 202) rfl) rfl
theorem wd2_203 : Cond.methodLink RX11 111 yX11_isSide ∈ TB := tb2 (List.mem_of_getElem? (i := 203) rfl) rfl
theorem wd2_204 : Cond.static yX11_isSide ∈ TB := tb2 (List.mem_of_getElem? (i := 204) rfl) rfl
theorem wd2_205 : Cond.code yX11_isSide cX11_isSide 1 (Option.some Jvm.ClassFile.FieldType.boolean) ∈ TB := tb2 (List.mem_of_getElem? (i := 205) rfl) rfl
theorem wd2_206 : Cond.methodLink RX11 115 yX2_side ∈ TB := tb2 (List.mem_of_getElem? (i := 206) rfl) rfl
theorem wd2_207 : Cond.instanceMethod yX2_side ∈ TB := tb2 (List.mem_of_getElem? (i := 207) rfl) rfl
theorem wd2_208 : Cond.selects RX2 yX2_side yX2_side ∈ TB := tb2 (List.mem_of_getElem? (i := 208) rfl) rfl
theorem wd2_209 : Cond.code yX2_side cX2_side 2 (Option.some Jvm.ClassFile.FieldType.long) ∈ TB := tb2 (List.mem_of_getElem? (i := 209) rfl) rfl
theorem wd2_210 : Cond.methodLink RX11 119 yX9_size ∈ TB := tb2 (List.mem_of_getElem? (i := 210) rfl) rfl
theorem wd2_211 : Cond.static yX9_size ∈ TB := tb2 (List.mem_of_getElem? (i := 211) rfl) rfl
theorem wd2_212 : Cond.code yX9_size cX9_size 3 (Option.some Jvm.ClassFile.FieldType.int) ∈ TB := tb2 (List.mem_of_getElem? (i := 212) rfl) rfl
theorem wd2_213 : Cond.methodLink RL 35 yX11_symbolAt ∈ TB := tb2 (List.mem_of_getElem? (i := 213) rfl) rfl
theorem wd2_214 : Cond.instanceMethod yX11_symbolAt ∈ TB := tb2 (List.mem_of_getElem? (i := 214) rfl) rfl
theorem wd2_215 : Cond.selects RX11 yX11_symbolAt yX11_symbolAt ∈ TB := tb2 (List.mem_of_getElem? (i := 215) rfl) rfl
theorem wd2_216 : Cond.code yX11_symbolAt cX11_symbolAt 3 (Option.some Jvm.ClassFile.FieldType.int) ∈ TB := tb2 (List.mem_of_getElem? (i := 216) rfl) rfl
theorem wd2_217 : Cond.methodLink RX11 124 yX9_symbol ∈ TB := tb2 (List.mem_of_getElem? (i := 217) rfl) rfl
theorem wd2_218 : Cond.static yX9_symbol ∈ TB := tb2 (List.mem_of_getElem? (i := 218) rfl) rfl
theorem wd2_219 : Cond.code yX9_symbol cX9_symbol 3 (Option.some Jvm.ClassFile.FieldType.int) ∈ TB := tb2 (List.mem_of_getElem? (i := 219) rfl) rfl
theorem wd2_220 : Cond.methodLink RX11 128 yX9_character ∈ TB := tb2 (List.mem_of_getElem? (i := 220) rfl) rfl
theorem wd2_221 : Cond.static yX9_character ∈ TB := tb2 (List.mem_of_getElem? (i := 221) rfl) rfl
theorem wd2_222 : Cond.code yX9_character cX9_character 1 (Option.some Jvm.ClassFile.FieldType.char) ∈ TB := tb2 (List.mem_of_getElem? (i := 222) rfl) rfl
theorem wd2_223 : Cond.methodLink RX9 19 yJ0_length_8abf5 ∈ TB := tb2 (List.mem_of_getElem? (i := 223) rfl) rfl
theorem wd2_224 : Cond.methodLink RX9 23 yJ0_charAt_5068e ∈ TB := tb2 (List.mem_of_getElem? (i := 224) rfl) rfl
theorem wd2_225 : Cond.instanceMethod yJ0_charAt_5068e ∈ TB := tb2 (List.mem_of_getElem? (i := 225) rfl) rfl
theorem wd2_226 : Cond.selects RJ0 yJ0_charAt_5068e yJ0_charAt_5068e ∈ TB := tb2 (List.mem_of_getElem? (i := 226) rfl) rfl
theorem wd2_227 : Cond.code yJ0_charAt_5068e cJ0_charAt_5068e 2 (Option.some Jvm.ClassFile.FieldType.char) ∈ TB := tb2 (List.mem_of_getElem? (i := 227) rfl) rfl
theorem wd2_228 : Cond.methodLink RJ0 495 yJ1_charAt_3b067 ∈ TB := tb2 (List.mem_of_getElem? (i := 228) rfl) rfl
theorem wd2_229 : Cond.static yJ1_charAt_3b067 ∈ TB := tb2 (List.mem_of_getElem? (i := 229) rfl) rfl
theorem wd2_230 : Cond.code yJ1_charAt_3b067 cJ1_charAt_3b067 2 (Option.some Jvm.ClassFile.FieldType.char) ∈ TB := tb2 (List.mem_of_getElem? (i := 230) rfl) rfl
theorem wd2_231 : Cond.methodLink RJ1 9 yJ0_checkIndex_df160 ∈ TB := tb2 (List.mem_of_getElem? (i := 231) rfl) rfl
theorem wd2_232 : Cond.static yJ0_checkIndex_df160 ∈ TB := tb2 (List.mem_of_getElem? (i := 232) rfl) rfl
theorem wd2_233 : Cond.code yJ0_checkIndex_df160 cJ0_checkIndex_df160 2 Option.none ∈ TB := tb2 (List.mem_of_getElem? (i := 233) rfl) rfl
theorem wd2_234 : Cond.methodLink RJ0 1059 yJ3_checkIndex_8e157 ∈ TB := tb2 (List.mem_of_getElem? (i := 234) rfl) rfl
theorem wd2_235 : Cond.static yJ3_checkIndex_8e157 ∈ TB := tb2 (List.mem_of_getElem? (i := 235) rfl) rfl
theorem wd2_236 : Cond.code yJ3_checkIndex_8e157 cJ3_checkIndex_8e157 3 (Option.some Jvm.ClassFile.FieldType.int) ∈ TB := tb2 (List.mem_of_getElem? (i := 236) rfl) rfl
theorem wd2_237 : Cond.methodLink RJ0 498 yJ2_charAt_3b067 ∈ TB := tb2 (List.mem_of_getElem? (i := 237) rfl) rfl
theorem wd2_238 : Cond.static yJ2_charAt_3b067 ∈ TB := tb2 (List.mem_of_getElem? (i := 238) rfl) rfl
theorem wd2_239 : Cond.code yJ2_charAt_3b067 cJ2_charAt_3b067 2 (Option.some Jvm.ClassFile.FieldType.char) ∈ TB := tb2 (List.mem_of_getElem? (i := 239) rfl) rfl
theorem wd3_0 : Cond.methodLink RJ2 67 yJ2_checkIndex_2214a ∈ TB := tb3 (List.mem_of_getElem? (i := 0) rfl) rfl
theorem wd3_1 : Cond.static yJ2_checkIndex_2214a ∈ TB := tb3 (List.mem_of_getElem? (i := 1) rfl) rfl
theorem wd3_2 : Cond.code yJ2_checkIndex_2214a cJ2_checkIndex_2214a 2 Option.none ∈ TB := tb3 (List.mem_of_getElem? (i := 2) rfl) rfl
theorem wd3_3 : Cond.methodLink RJ2 414 yJ0_checkIndex_df160 ∈ TB := tb3 (List.mem_of_getElem? (i := 3) rfl) rfl
theorem wd3_4 : Cond.methodLink RL 40 yX11_occurrences ∈ TB := tb3 (List.mem_of_getElem? (i := 4) rfl) rfl
theorem wd3_5 : Cond.instanceMethod yX11_occurrences ∈ TB := tb3 (List.mem_of_getElem? (i := 5) rfl) rfl
theorem wd3_6 : Cond.selects RX11 yX11_occurrences yX11_occurrences ∈ TB := tb3 (List.mem_of_getElem? (i := 6) rfl) rfl
theorem wd3_7 : Cond.code yX11_occurrences cX11_occurrences 3 (Option.some Jvm.ClassFile.FieldType.int) ∈ TB := tb3 (List.mem_of_getElem? (i := 7) rfl) rfl
theorem wd3_8 : Cond.methodLink RX11 132 yX11_isVariable ∈ TB := tb3 (List.mem_of_getElem? (i := 8) rfl) rfl
theorem wd3_9 : Cond.static yX11_isVariable ∈ TB := tb3 (List.mem_of_getElem? (i := 9) rfl) rfl
theorem wd3_10 : Cond.code yX11_isVariable cX11_isVariable 1 (Option.some Jvm.ClassFile.FieldType.boolean) ∈ TB := tb3 (List.mem_of_getElem? (i := 10) rfl) rfl
theorem wd3_11 : Cond.methodLink RX11 135 yX9_variable ∈ TB := tb3 (List.mem_of_getElem? (i := 11) rfl) rfl
theorem wd3_12 : Cond.static yX9_variable ∈ TB := tb3 (List.mem_of_getElem? (i := 12) rfl) rfl
theorem wd3_13 : Cond.code yX9_variable cX9_variable 1 (Option.some Jvm.ClassFile.FieldType.int) ∈ TB := tb3 (List.mem_of_getElem? (i := 13) rfl) rfl
theorem wd3_14 : Cond.methodLink RX11 139 yX9_countOf ∈ TB := tb3 (List.mem_of_getElem? (i := 14) rfl) rfl
theorem wd3_15 : Cond.static yX9_countOf ∈ TB := tb3 (List.mem_of_getElem? (i := 15) rfl) rfl
theorem wd3_16 : Cond.code yX9_countOf cX9_countOf 5 (Option.some Jvm.ClassFile.FieldType.int) ∈ TB := tb3 (List.mem_of_getElem? (i := 16) rfl) rfl
theorem wd3_17 : Cond.constantLong RX9 27 7 ∈ TB := tb3 (List.mem_of_getElem? (i := 17) rfl) rfl
theorem wd3_18 : Cond.methodLink RL 44 yX11_swapSides ∈ TB := tb3 (List.mem_of_getElem? (i := 18) rfl) rfl
theorem wd3_19 : Cond.instanceMethod yX11_swapSides ∈ TB := tb3 (List.mem_of_getElem? (i := 19) rfl) rfl
theorem wd3_20 : Cond.selects RX11 yX11_swapSides yX11_swapSides ∈ TB := tb3 (List.mem_of_getElem? (i := 20) rfl) rfl
theorem wd3_21 : Cond.code yX11_swapSides cX11_swapSides 1 (Option.some Jvm.ClassFile.FieldType.int) ∈ TB := tb3 (List.mem_of_getElem? (i := 21) rfl) rfl
theorem wd3_22 : Cond.methodLink RX11 142 yX4_remember ∈ TB := tb3 (List.mem_of_getElem? (i := 22) rfl) rfl
theorem wd3_23 : Cond.instanceMethod yX4_remember ∈ TB := tb3 (List.mem_of_getElem? (i := 23) rfl) rfl
theorem wd3_24 : Cond.selects RX4 yX4_remember yX4_remember ∈ TB := tb3 (List.mem_of_getElem? (i := 24) rfl) rfl
theorem wd3_25 : Cond.code yX4_remember cX4_remember 2 Option.none ∈ TB := tb3 (List.mem_of_getElem? (i := 25) rfl) rfl
theorem wd3_26 : Cond.methodLink RX4 20 yX4_forgetOldest ∈ TB := tb3 (List.mem_of_getElem? (i := 26) rfl) rfl
theorem wd3_28 : Cond.instanceMethod yX4_forgetOldest ∈ TB := tb3 (List.mem_of_getElem? (i := 28) rfl) rfl
theorem wd3_29 : Cond.code yX4_forgetOldest cX4_forgetOldest 2 Option.none ∈ TB := tb3 (List.mem_of_getElem? (i := 29) rfl) rfl
theorem wd3_30 : Cond.methodLink RX11 145 yX2_swap ∈ TB := tb3 (List.mem_of_getElem? (i := 30) rfl) rfl
theorem wd3_31 : Cond.instanceMethod yX2_swap ∈ TB := tb3 (List.mem_of_getElem? (i := 31) rfl) rfl
theorem wd3_32 : Cond.selects RX2 yX2_swap yX2_swap ∈ TB := tb3 (List.mem_of_getElem? (i := 32) rfl) rfl
theorem wd3_33 : Cond.code yX2_swap cX2_swap 1 Option.none ∈ TB := tb3 (List.mem_of_getElem? (i := 33) rfl) rfl
theorem wd3_34 : Cond.methodLink RX2 38 yX2_set ∈ TB := tb3 (List.mem_of_getElem? (i := 34) rfl) rfl
theorem wd3_35 : Cond.methodLink RL 48 yX11_reverse ∈ TB := tb3 (List.mem_of_getElem? (i := 35) rfl) rfl
theorem wd3_36 : Cond.instanceMethod yX11_reverse ∈ TB := tb3 (List.mem_of_getElem? (i := 36) rfl) rfl
theorem wd3_37 : Cond.selects RX11 yX11_reverse yX11_reverse ∈ TB := tb3 (List.mem_of_getElem? (i := 37) rfl) rfl
theorem wd3_38 : Cond.code yX11_reverse cX11_reverse 1 (Option.some Jvm.ClassFile.FieldType.int) ∈ TB := tb3 (List.mem_of_getElem? (i := 38) rfl) rfl
theorem wd3_39 : Cond.methodLink RX11 152 yX2_turn ∈ TB := tb3 (List.mem_of_getElem? (i := 39) rfl) rfl
theorem wd3_40 : Cond.instanceMethod yX2_turn ∈ TB := tb3 (List.mem_of_getElem? (i := 40) rfl) rfl
theorem wd3_41 : Cond.selects RX2 yX2_turn yX2_turn ∈ TB := tb3 (List.mem_of_getElem? (i := 41) rfl) rfl
theorem wd3_42 : Cond.code yX2_turn cX2_turn 1 Option.none ∈ TB := tb3 (List.mem_of_getElem? (i := 42) rfl) rfl
theorem wd3_43 : Cond.methodLink RX2 42 yX9_reversed ∈ TB := tb3 (List.mem_of_getElem? (i := 43) rfl) rfl
theorem wd3_44 : Cond.static yX9_reversed ∈ TB := tb3 (List.mem_of_getElem? (i := 44) rfl) rfl
theorem wd3_45 : Cond.code yX9_reversed cX9_reversed 6 (Option.some Jvm.ClassFile.FieldType.long) ∈ TB := tb3 (List.mem_of_getElem? (i := 45) rfl) rfl
theorem wd3_46 : Cond.methodLink RX9 29 yX9_size ∈ TB := tb3 (List.mem_of_getElem? (i := 46) rfl) rfl
theorem wd3_47 : Cond.methodLink RX9 33 yX9_symbol ∈ TB := tb3 (List.mem_of_getElem? (i := 47) rfl) rfl
theorem wd3_48 : Cond.methodLink RX11 155 yX2_size ∈ TB := tb3 (List.mem_of_getElem? (i := 48) rfl) rfl
theorem wd3_49 : Cond.instanceMethod yX2_size ∈ TB := tb3 (List.mem_of_getElem? (i := 49) rfl) rfl
theorem wd3_50 : Cond.selects RX2 yX2_size yX2_size ∈ TB := tb3 (List.mem_of_getElem? (i := 50) rfl) rfl
theorem wd3_51 : Cond.code yX2_size cX2_size 1 (Option.some Jvm.ClassFile.FieldType.int) ∈ TB := tb3 (List.mem_of_getElem? (i := 51) rfl) rfl
theorem wd3_52 : Cond.methodLink RX2 18 yX9_size ∈ TB := tb3 (List.mem_of_getElem? (i := 52) rfl) rfl
theorem wd3_53 : Cond.methodLink RL 52 yX11_cancel ∈ TB := tb3 (List.mem_of_getElem? (i := 53) rfl) rfl
theorem wd3_54 : Cond.instanceMethod yX11_cancel ∈ TB := tb3 (List.mem_of_getElem? (i := 54) rfl) rfl
theorem wd3_55 : Cond.selects RX11 yX11_cancel yX11_cancel ∈ TB := tb3 (List.mem_of_getElem? (i := 55) rfl) rfl
theorem wd3_56 : Cond.code yX11_cancel cX11_cancel 1 (Option.some Jvm.ClassFile.FieldType.int) ∈ TB := tb3 (List.mem_of_getElem? (i := 56) rfl) rfl
theorem wd3_57 : Cond.methodLink RX11 156 yX2_cancelEnds ∈ TB := tb3 (List.mem_of_getElem? (i := 57) rfl) rfl
theorem wd3_58 : Cond.instanceMethod yX2_cancelEnds ∈ TB := tb3 (List.mem_of_getElem? (i := 58) rfl) rfl
theorem wd3_59 : Cond.selects RX2 yX2_cancelEnds yX2_cancelEnds ∈ TB := tb3 (List.mem_of_getElem? (i := 59) rfl) rfl
theorem wd3_60 : Cond.code yX2_cancelEnds cX2_cancelEnds 2 (Option.some Jvm.ClassFile.FieldType.int) ∈ TB := tb3 (List.mem_of_getElem? (i := 60) rfl) rfl
theorem wd3_61 : Cond.methodLink RX2 49 yX2_cancelHeads ∈ TB := tb3 (List.mem_of_getElem? (i := 61) rfl) rfl
theorem wd3_63 : Cond.instanceMethod yX2_cancelHeads ∈ TB := tb3 (List.mem_of_getElem? (i := 63) rfl) rfl
theorem wd3_64 : Cond.code yX2_cancelHeads cX2_cancelHeads 2 (Option.some Jvm.ClassFile.FieldType.int) ∈ TB := tb3 (List.mem_of_getElem? (i := 64) rfl) rfl
theorem wd3_65 : Cond.methodLink RX2 56 yX9_head ∈ TB := tb3 (List.mem_of_getElem? (i := 65) rfl) rfl
theorem wd3_66 : Cond.static yX9_head ∈ TB := tb3 (List.mem_of_getElem? (i := 66) rfl) rfl
theorem wd3_67 : Cond.code yX9_head cX9_head 2 (Option.some Jvm.ClassFile.FieldType.int) ∈ TB := tb3 (List.mem_of_getElem? (i := 67) rfl) rfl
theorem wd3_68 : Cond.methodLink RX2 59 yX9_tail ∈ TB := tb3 (List.mem_of_getElem? (i := 68) rfl) rfl
theorem wd3_69 : Cond.static yX9_tail ∈ TB := tb3 (List.mem_of_getElem? (i := 69) rfl) rfl
theorem wd3_70 : Cond.code yX9_tail cX9_tail 2 (Option.some Jvm.ClassFile.FieldType.long) ∈ TB := tb3 (List.mem_of_getElem? (i := 70) rfl) rfl
theorem wd3_71 : Cond.methodLink RX2 53 yX2_turn ∈ TB := tb3 (List.mem_of_getElem? (i := 71) rfl) rfl
theorem wd3_72 : Cond.methodLink RL 56 yX11_exchangeLetters ∈ TB := tb3 (List.mem_of_getElem? (i := 72) rfl) rfl
theorem wd3_73 : Cond.instanceMethod yX11_exchangeLetters ∈ TB := tb3 (List.mem_of_getElem? (i := 73) rfl) rfl
theorem wd3_74 : Cond.selects RX11 yX11_exchangeLetters yX11_exchangeLetters ∈ TB := tb3 (List.mem_of_getElem? (i := 74) rfl) rfl
theorem wd3_75 : Cond.code yX11_exchangeLetters cX11_exchangeLetters 1 (Option.some Jvm.ClassFile.FieldType.int) ∈ TB := tb3 (List.mem_of_getElem? (i := 75) rfl) rfl
theorem wd3_76 : Cond.methodLink RX11 159 yX2_exchange ∈ TB := tb3 (List.mem_of_getElem? (i := 76) rfl) rfl
theorem wd3_77 : Cond.instanceMethod yX2_exchange ∈ TB := tb3 (List.mem_of_getElem? (i := 77) rfl) rfl
theorem wd3_78 : Cond.selects RX2 yX2_exchange yX2_exchange ∈ TB := tb3 (List.mem_of_getElem? (i := 78) rfl) rfl
theorem wd3_79 : Cond.code yX2_exchange cX2_exchange 1 Option.none ∈ TB := tb3 (List.mem_of_getElem? (i := 79) rfl) rfl
theorem wd3_80 : Cond.methodLink RX2 46 yX9_exchanged ∈ TB := tb3 (List.mem_of_getElem? (i := 80) rfl) rfl
theorem wd3_81 : Cond.static yX9_exchanged ∈ TB := tb3 (List.mem_of_getElem? (i := 81) rfl) rfl
theorem wd3_82 : Cond.code yX9_exchanged cX9_exchanged 7 (Option.some Jvm.ClassFile.FieldType.long) ∈ TB := tb3 (List.mem_of_getElem? (i := 82) rfl) rfl
theorem wd3_83 : Cond.methodLink RX9 37 yX9_one ∈ TB := tb3 (List.mem_of_getElem? (i := 83) rfl) rfl
theorem wd3_84 : Cond.methodLink RX11 162 yX2_total ∈ TB := tb3 (List.mem_of_getElem? (i := 84) rfl) rfl
theorem wd3_85 : Cond.instanceMethod yX2_total ∈ TB := tb3 (List.mem_of_getElem? (i := 85) rfl) rfl
theorem wd3_86 : Cond.selects RX2 yX2_total yX2_total ∈ TB := tb3 (List.mem_of_getElem? (i := 86) rfl) rfl
theorem wd3_87 : Cond.code yX2_total cX2_total 2 (Option.some Jvm.ClassFile.FieldType.int) ∈ TB := tb3 (List.mem_of_getElem? (i := 87) rfl) rfl
theorem wd3_88 : Cond.methodLink RX2 24 yX9_countOf ∈ TB := tb3 (List.mem_of_getElem? (i := 88) rfl) rfl
theorem wd3_89 : Cond.methodLink RL 60 yX11_eliminate ∈ TB := tb3 (List.mem_of_getElem? (i := 89) rfl) rfl
theorem wd3_90 : Cond.instanceMethod yX11_eliminate ∈ TB := tb3 (List.mem_of_getElem? (i := 90) rfl) rfl
theorem wd3_91 : Cond.selects RX11 yX11_eliminate yX11_eliminate ∈ TB := tb3 (List.mem_of_getElem? (i := 91) rfl) rfl
theorem wd3_92 : Cond.code yX11_eliminate cX11_eliminate 2 (Option.some Jvm.ClassFile.FieldType.int) ∈ TB := tb3 (List.mem_of_getElem? (i := 92) rfl) rfl
theorem wd3_93 : Cond.methodLink RX11 165 yX2_replace ∈ TB := tb3 (List.mem_of_getElem? (i := 93) rfl) rfl
theorem wd3_94 : Cond.instanceMethod yX2_replace ∈ TB := tb3 (List.mem_of_getElem? (i := 94) rfl) rfl
theorem wd3_95 : Cond.selects RX2 yX2_replace yX2_replace ∈ TB := tb3 (List.mem_of_getElem? (i := 95) rfl) rfl
theorem wd3_96 : Cond.code yX2_replace cX2_replace 5 (Option.some Jvm.ClassFile.FieldType.int) ∈ TB := tb3 (List.mem_of_getElem? (i := 96) rfl) rfl
theorem wd3_97 : Cond.methodLink RX2 62 yX2_total ∈ TB := tb3 (List.mem_of_getElem? (i := 97) rfl) rfl
theorem wd3_98 : Cond.methodLink RX2 66 yX9_replaced ∈ TB := tb3 (List.mem_of_getElem? (i := 98) rfl) rfl
theorem wd3_99 : Cond.static yX9_replaced ∈ TB := tb3 (List.mem_of_getElem? (i := 99) rfl) rfl
theorem wd3_100 : Cond.code yX9_replaced cX9_replaced 12 (Option.some Jvm.ClassFile.FieldType.long) ∈ TB := tb3 (List.mem_of_getElem? (i := 100) rfl) rfl
theorem wd3_101 : Cond.methodLink RL 64 yX11_substitute ∈ TB := tb3 (List.mem_of_getElem? (i := 101) rfl) rfl
theorem wd3_102 : Cond.instanceMethod yX11_substitute ∈ TB := tb3 (List.mem_of_getElem? (i := 102) rfl) rfl
theorem wd3_103 : Cond.selects RX11 yX11_substitute yX11_substitute ∈ TB := tb3 (List.mem_of_getElem? (i := 103) rfl) rfl
theorem wd3_104 : Cond.code yX11_substitute cX11_substitute 3 (Option.some Jvm.ClassFile.FieldType.int) ∈ TB := tb3 (List.mem_of_getElem? (i := 104) rfl) rfl
theorem wd3_105 : Cond.methodLink RX11 169 yX3_hasOnlySymbols ∈ TB := tb3 (List.mem_of_getElem? (i := 105) rfl) rfl
theorem wd3_106 : Cond.instanceMethod yX3_hasOnlySymbols ∈ TB := tb3 (List.mem_of_getElem? (i := 106) rfl) rfl
theorem wd3_107 : Cond.selects RX3 yX3_hasOnlySymbols yX3_hasOnlySymbols ∈ TB := tb3 (List.mem_of_getElem? (i := 107) rfl) rfl
theorem wd3_108 : Cond.code yX3_hasOnlySymbols cX3_hasOnlySymbols 2 (Option.some Jvm.ClassFile.FieldType.boolean) ∈ TB := tb3 (List.mem_of_getElem? (i := 108) rfl) rfl
theorem wd3_109 : Cond.methodLink RX11 173 yX2_longestAfter ∈ TB := tb3 (List.mem_of_getElem? (i := 109) rfl) rfl
theorem wd3_110 : Cond.instanceMethod yX2_longestAfter ∈ TB := tb3 (List.mem_of_getElem? (i := 110) rfl) rfl
theorem wd3_111 : Cond.selects RX2 yX2_longestAfter yX2_longestAfter ∈ TB := tb3 (List.mem_of_getElem? (i := 111) rfl) rfl
theorem wd3_112 : Cond.code yX2_longestAfter cX2_longestAfter 3 (Option.some Jvm.ClassFile.FieldType.int) ∈ TB := tb3 (List.mem_of_getElem? (i := 112) rfl) rfl
theorem wd3_113 : Cond.methodLink RX2 28 yX9_sizeAfter ∈ TB := tb3 (List.mem_of_getElem? (i := 113) rfl) rfl
theorem wd3_114 : Cond.static yX9_sizeAfter ∈ TB := tb3 (List.mem_of_getElem? (i := 114) rfl) rfl
theorem wd3_115 : Cond.code yX9_sizeAfter cX9_sizeAfter 4 (Option.some Jvm.ClassFile.FieldType.int) ∈ TB := tb3 (List.mem_of_getElem? (i := 115) rfl) rfl
theorem wd3_116 : Cond.methodLink RX9 41 yX9_countOf ∈ TB := tb3 (List.mem_of_getElem? (i := 116) rfl) rfl
theorem wd3_117 : Cond.methodLink RX2 32 yJ9_max_7cf53 ∈ TB := tb3 (List.mem_of_getElem? (i := 117) rfl) rfl
theorem wd3_118 : Cond.methodLink RX11 177 yX3_packed ∈ TB := tb3 (List.mem_of_getElem? (i := 118) rfl) rfl
theorem wd3_119 : Cond.methodLink RL 68 yX11_undo ∈ TB := tb3 (List.mem_of_getElem? (i := 119) rfl) rfl
theorem wd3_120 : Cond.instanceMethod yX11_undo ∈ TB := tb3 (List.mem_of_getElem? (i := 120) rfl) rfl
theorem wd3_121 : Cond.selects RX11 yX11_undo yX11_undo ∈ TB := tb3 (List.mem_of_getElem? (i := 121) rfl) rfl
theorem wd3_122 : Cond.code yX11_undo cX11_undo 1 (Option.some Jvm.ClassFile.FieldType.int) ∈ TB := tb3 (List.mem_of_getElem? (i := 122) rfl) rfl
theorem wd3_123 : Cond.methodLink RX11 181 yX4_size ∈ TB := tb3 (List.mem_of_getElem? (i := 123) rfl) rfl
theorem wd3_124 : Cond.instanceMethod yX4_size ∈ TB := tb3 (List.mem_of_getElem? (i := 124) rfl) rfl
theorem wd3_125 : Cond.selects RX4 yX4_size yX4_size ∈ TB := tb3 (List.mem_of_getElem? (i := 125) rfl) rfl
theorem wd3_126 : Cond.code yX4_size cX4_size 1 (Option.some Jvm.ClassFile.FieldType.int) ∈ TB := tb3 (List.mem_of_getElem? (i := 126) rfl) rfl
theorem wd3_127 : Cond.methodLink RX11 182 yX4_takeBack ∈ TB := tb3 (List.mem_of_getElem? (i := 127) rfl) rfl
theorem wd3_128 : Cond.instanceMethod yX4_takeBack ∈ TB := tb3 (List.mem_of_getElem? (i := 128) rfl) rfl
theorem wd3_129 : Cond.selects RX4 yX4_takeBack yX4_takeBack ∈ TB := tb3 (List.mem_of_getElem? (i := 129) rfl) rfl
theorem wd3_130 : Cond.code yX4_takeBack cX4_takeBack 2 Option.none ∈ TB := tb3 (List.mem_of_getElem? (i := 130) rfl) rfl
theorem wd3_131 : Cond.methodLink RX4 32 yX2_set ∈ TB := tb3 (List.mem_of_getElem? (i := 131) rfl) rfl
theorem wd3_132 : Cond.methodLink RL 72 yX11_satisfies ∈ TB := tb3 (List.mem_of_getElem? (i := 132) rfl) rfl
theorem wd3_133 : Cond.instanceMethod yX11_satisfies ∈ TB := tb3 (List.mem_of_getElem? (i := 133) rfl) rfl
theorem wd3_134 : Cond.selects RX11 yX11_satisfies yX11_satisfies ∈ TB := tb3 (List.mem_of_getElem? (i := 134) rfl) rfl
theorem wd3_135 : Cond.code yX11_satisfies cX11_satisfies 5 (Option.some Jvm.ClassFile.FieldType.int) ∈ TB := tb3 (List.mem_of_getElem? (i := 135) rfl) rfl
theorem wd3_136 : Cond.methodLink RX11 185 yX11_isWordNumber ∈ TB := tb3 (List.mem_of_getElem? (i := 136) rfl) rfl
theorem wd3_137 : Cond.static yX11_isWordNumber ∈ TB := tb3 (List.mem_of_getElem? (i := 137) rfl) rfl
theorem wd3_138 : Cond.code yX11_isWordNumber cX11_isWordNumber 1 (Option.some Jvm.ClassFile.FieldType.boolean) ∈ TB := tb3 (List.mem_of_getElem? (i := 138) rfl) rfl
theorem wd3_139 : Cond.methodLink RX11 188 yX11_holdsFor ∈ TB := tb3 (List.mem_of_getElem? (i := 139) rfl) rfl
theorem wd3_141 : Cond.instanceMethod yX11_holdsFor ∈ TB := tb3 (List.mem_of_getElem? (i := 141) rfl) rfl
theorem wd3_142 : Cond.code yX11_holdsFor cX11_holdsFor 6 (Option.some Jvm.ClassFile.FieldType.boolean) ∈ TB := tb3 (List.mem_of_getElem? (i := 142) rfl) rfl
theorem wd3_143 : Cond.methodLink RX11 261 yX0_giveNumber ∈ TB := tb3 (List.mem_of_getElem? (i := 143) rfl) rfl
theorem wd3_144 : Cond.instanceMethod yX0_giveNumber ∈ TB := tb3 (List.mem_of_getElem? (i := 144) rfl) rfl
theorem wd3_145 : Cond.selects RX0 yX0_giveNumber yX0_giveNumber ∈ TB := tb3 (List.mem_of_getElem? (i := 145) rfl) rfl
theorem wd3_146 : Cond.code yX0_giveNumber cX0_giveNumber 5 Option.none ∈ TB := tb3 (List.mem_of_getElem? (i := 146) rfl) rfl
theorem wd3_147 : Cond.methodLink RX0 25 yX0_give ∈ TB := tb3 (List.mem_of_getElem? (i := 147) rfl) rfl
theorem wd3_148 : Cond.instanceMethod yX0_give ∈ TB := tb3 (List.mem_of_getElem? (i := 148) rfl) rfl
theorem wd3_149 : Cond.selects RX0 yX0_give yX0_give ∈ TB := tb3 (List.mem_of_getElem? (i := 149) rfl) rfl
theorem wd3_150 : Cond.code yX0_give cX0_give 5 Option.none ∈ TB := tb3 (List.mem_of_getElem? (i := 150) rfl) rfl
theorem wd3_151 : Cond.methodLink RX0 29 yX9_isVariableSymbol ∈ TB := tb3 (List.mem_of_getElem? (i := 151) rfl) rfl
theorem wd3_152 : Cond.methodLink RX11 226 yX0_lengthOf ∈ TB := tb3 (List.mem_of_getElem? (i := 152) rfl) rfl
theorem wd3_153 : Cond.instanceMethod yX0_lengthOf ∈ TB := tb3 (List.mem_of_getElem? (i := 153) rfl) rfl
theorem wd3_154 : Cond.selects RX0 yX0_lengthOf yX0_lengthOf ∈ TB := tb3 (List.mem_of_getElem? (i := 154) rfl) rfl
theorem wd3_155 : Cond.code yX0_lengthOf cX0_lengthOf 2 (Option.some Jvm.ClassFile.FieldType.int) ∈ TB := tb3 (List.mem_of_getElem? (i := 155) rfl) rfl
theorem wd3_156 : Cond.methodLink RX11 265 yX5_allow ∈ TB := tb3 (List.mem_of_getElem? (i := 156) rfl) rfl
theorem wd3_157 : Cond.instanceMethod yX5_allow ∈ TB := tb3 (List.mem_of_getElem? (i := 157) rfl) rfl
theorem wd3_158 : Cond.selects RX5 yX5_allow yX5_allow ∈ TB := tb3 (List.mem_of_getElem? (i := 158) rfl) rfl
theorem wd3_159 : Cond.code yX5_allow cX5_allow 4 (Option.some Jvm.ClassFile.FieldType.boolean) ∈ TB := tb3 (List.mem_of_getElem? (i := 159) rfl) rfl
theorem wd3_160 : Cond.methodLink RX5 24 yX5_holds ∈ TB := tb3 (List.mem_of_getElem? (i := 160) rfl) rfl
theorem wd3_161 : Cond.static yX5_holds ∈ TB := tb3 (List.mem_of_getElem? (i := 161) rfl) rfl
theorem wd3_162 : Cond.code yX5_holds cX5_holds 3 (Option.some Jvm.ClassFile.FieldType.boolean) ∈ TB := tb3 (List.mem_of_getElem? (i := 162) rfl) rfl
theorem wd3_163 : Cond.methodLink RX11 272 yX0_equates ∈ TB := tb3 (List.mem_of_getElem? (i := 163) rfl) rfl
theorem wd3_164 : Cond.instanceMethod yX0_equates ∈ TB := tb3 (List.mem_of_getElem? (i := 164) rfl) rfl
theorem wd3_165 : Cond.selects RX0 yX0_equates yX0_equates ∈ TB := tb3 (List.mem_of_getElem? (i := 165) rfl) rfl
theorem wd3_166 : Cond.code yX0_equates cX0_equates 5 (Option.some Jvm.ClassFile.FieldType.boolean) ∈ TB := tb3 (List.mem_of_getElem? (i := 166) rfl) rfl
theorem wd3_167 : Cond.methodLink RX0 36 yX0_spelled ∈ TB := tb3 (List.mem_of_getElem? (i := 167) rfl) rfl
theorem wd3_169 : Cond.instanceMethod yX0_spelled ∈ TB := tb3 (List.mem_of_getElem? (i := 169) rfl) rfl
theorem wd3_170 : Cond.code yX0_spelled cX0_spelled 9 (Option.some Jvm.ClassFile.FieldType.long) ∈ TB := tb3 (List.mem_of_getElem? (i := 170) rfl) rfl
theorem wd3_171 : Cond.methodLink RL 77 yX11_countSolutions ∈ TB := tb3 (List.mem_of_getElem? (i := 171) rfl) rfl
theorem wd3_172 : Cond.instanceMethod yX11_countSolutions ∈ TB := tb3 (List.mem_of_getElem? (i := 172) rfl) rfl
theorem wd3_173 : Cond.selects RX11 yX11_countSolutions yX11_countSolutions ∈ TB := tb3 (List.mem_of_getElem? (i := 173) rfl) rfl
theorem wd3_174 : Cond.code yX11_countSolutions cX11_countSolutions 2 (Option.some Jvm.ClassFile.FieldType.int) ∈ TB := tb3 (List.mem_of_getElem? (i := 174) rfl) rfl
theorem wd3_175 : Cond.methodLink RX11 192 yX1_enumerate ∈ TB := tb3 (List.mem_of_getElem? (i := 175) rfl) rfl
theorem wd3_176 : Cond.instanceMethod yX1_enumerate ∈ TB := tb3 (List.mem_of_getElem? (i := 176) rfl) rfl
theorem wd3_177 : Cond.selects RX1 yX1_enumerate yX1_enumerate ∈ TB := tb3 (List.mem_of_getElem? (i := 177) rfl) rfl
theorem wd3_178 : Cond.code yX1_enumerate cX1_enumerate 3 (Option.some Jvm.ClassFile.FieldType.int) ∈ TB := tb3 (List.mem_of_getElem? (i := 178) rfl) rfl
theorem wd3_179 : Cond.methodLink RX1 44 yX6_prepare ∈ TB := tb3 (List.mem_of_getElem? (i := 179) rfl) rfl
theorem wd3_180 : Cond.instanceMethod yX6_prepare ∈ TB := tb3 (List.mem_of_getElem? (i := 180) rfl) rfl
theorem wd3_181 : Cond.selects RX6 yX6_prepare yX6_prepare ∈ TB := tb3 (List.mem_of_getElem? (i := 181) rfl) rfl
theorem wd3_182 : Cond.code yX6_prepare cX6_prepare 5 Option.none ∈ TB := tb3 (List.mem_of_getElem? (i := 182) rfl) rfl
theorem wd3_183 : Cond.methodLink RX6 24 yX2_surplus ∈ TB := tb3 (List.mem_of_getElem? (i := 183) rfl) rfl
theorem wd3_184 : Cond.instanceMethod yX2_surplus ∈ TB := tb3 (List.mem_of_getElem? (i := 184) rfl) rfl
theorem wd3_185 : Cond.selects RX2 yX2_surplus yX2_surplus ∈ TB := tb3 (List.mem_of_getElem? (i := 185) rfl) rfl
theorem wd3_186 : Cond.code yX2_surplus cX2_surplus 2 (Option.some Jvm.ClassFile.FieldType.int) ∈ TB := tb3 (List.mem_of_getElem? (i := 186) rfl) rfl
theorem wd3_187 : Cond.methodLink RX6 34 yX9_variable ∈ TB := tb3 (List.mem_of_getElem? (i := 187) rfl) rfl
theorem wd3_188 : Cond.methodLink RX6 37 yX2_total ∈ TB := tb3 (List.mem_of_getElem? (i := 188) rfl) rfl
theorem wd3_189 : Cond.methodLink RX6 40 yX6_possibleUpTo ∈ TB := tb3 (List.mem_of_getElem? (i := 189) rfl) rfl
theorem wd3_191 : Cond.instanceMethod yX6_possibleUpTo ∈ TB := tb3 (List.mem_of_getElem? (i := 191) rfl) rfl
theorem wd3_192 : Cond.code yX6_possibleUpTo cX6_possibleUpTo 5 (Option.some Jvm.ClassFile.FieldType.int) ∈ TB := tb3 (List.mem_of_getElem? (i := 192) rfl) rfl
theorem wd3_193 : Cond.methodLink RX6 44 yX5_allow ∈ TB := tb3 (List.mem_of_getElem? (i := 193) rfl) rfl
theorem wd3_194 : Cond.methodLink RX1 50 yX6_letterSurplus ∈ TB := tb3 (List.mem_of_getElem? (i := 194) rfl) rfl
theorem wd3_195 : Cond.instanceMethod yX6_letterSurplus ∈ TB := tb3 (List.mem_of_getElem? (i := 195) rfl) rfl
theorem wd3_196 : Cond.selects RX6 yX6_letterSurplus yX6_letterSurplus ∈ TB := tb3 (List.mem_of_getElem? (i := 196) rfl) rfl
theorem wd3_197 : Cond.code yX6_letterSurplus cX6_letterSurplus 1 (Option.some Jvm.ClassFile.FieldType.int) ∈ TB := tb3 (List.mem_of_getElem? (i := 197) rfl) rfl
theorem wd3_198 : Cond.methodLink RX1 54 yX1_chooseWord ∈ TB := tb3 (List.mem_of_getElem? (i := 198) rfl) rfl
theorem wd3_200 : Cond.instanceMethod yX1_chooseWord ∈ TB := tb3 (List.mem_of_getElem? (i := 200) rfl) rfl
theorem wd3_201 : Cond.code yX1_chooseWord cX1_chooseWord 4 Option.none ∈ TB := tb3 (List.mem_of_getElem? (i := 201) rfl) rfl
theorem wd3_203 : Cond.methodLink RX1 62 yX0_equates ∈ TB := tb3 (List.mem_of_getElem? (i := 203) rfl) rfl
theorem wd3_204 : Cond.methodLink RX1 66 yX1_record ∈ TB := tb3 (List.mem_of_getElem? (i := 204) rfl) rfl
theorem wd3_206 : Cond.instanceMethod yX1_record ∈ TB := tb3 (List.mem_of_getElem? (i := 206) rfl) rfl
theorem wd3_207 : Cond.code yX1_record cX1_record 4 Option.none ∈ TB := tb3 (List.mem_of_getElem? (i := 207) rfl) rfl
theorem wd3_208 : Cond.methodLink RX1 84 yX9_variable ∈ TB := tb3 (List.mem_of_getElem? (i := 208) rfl) rfl
theorem wd3_209 : Cond.methodLink RX1 94 yX0_lengthOf ∈ TB := tb3 (List.mem_of_getElem? (i := 209) rfl) rfl
theorem wd3_210 : Cond.methodLink RX1 97 yX0_numberOf ∈ TB := tb3 (List.mem_of_getElem? (i := 210) rfl) rfl
theorem wd3_211 : Cond.instanceMethod yX0_numberOf ∈ TB := tb3 (List.mem_of_getElem? (i := 211) rfl) rfl
theorem wd3_212 : Cond.selects RX0 yX0_numberOf yX0_numberOf ∈ TB := tb3 (List.mem_of_getElem? (i := 212) rfl) rfl
theorem wd3_213 : Cond.code yX0_numberOf cX0_numberOf 3 (Option.some Jvm.ClassFile.FieldType.int) ∈ TB := tb3 (List.mem_of_getElem? (i := 213) rfl) rfl
theorem wd3_214 : Cond.methodLink RX1 100 yJ9_min_7cf53 ∈ TB := tb3 (List.mem_of_getElem? (i := 214) rfl) rfl
theorem wd3_215 : Cond.methodLink RX1 69 yX6_allows ∈ TB := tb3 (List.mem_of_getElem? (i := 215) rfl) rfl
theorem wd3_216 : Cond.instanceMethod yX6_allows ∈ TB := tb3 (List.mem_of_getElem? (i := 216) rfl) rfl
theorem wd3_217 : Cond.selects RX6 yX6_allows yX6_allows ∈ TB := tb3 (List.mem_of_getElem? (i := 217) rfl) rfl
theorem wd3_218 : Cond.code yX6_allows cX6_allows 3 (Option.some Jvm.ClassFile.FieldType.boolean) ∈ TB := tb3 (List.mem_of_getElem? (i := 218) rfl) rfl
theorem wd3_220 : Cond.methodLink RX1 73 yX6_surplusWith ∈ TB := tb3 (List.mem_of_getElem? (i := 220) rfl) rfl
theorem wd3_221 : Cond.instanceMethod yX6_surplusWith ∈ TB := tb3 (List.mem_of_getElem? (i := 221) rfl) rfl
theorem wd3_222 : Cond.selects RX6 yX6_surplusWith yX6_surplusWith ∈ TB := tb3 (List.mem_of_getElem? (i := 222) rfl) rfl
theorem wd3_223 : Cond.code yX6_surplusWith cX6_surplusWith 4 (Option.some Jvm.ClassFile.FieldType.int) ∈ TB := tb3 (List.mem_of_getElem? (i := 223) rfl) rfl
theorem wd3_224 : Cond.methodLink RX1 77 yX1_chooseLetters ∈ TB := tb3 (List.mem_of_getElem? (i := 224) rfl) rfl
theorem wd3_226 : Cond.instanceMethod yX1_chooseLetters ∈ TB := tb3 (List.mem_of_getElem? (i := 226) rfl) rfl
theorem wd3_227 : Cond.code yX1_chooseLetters cX1_chooseLetters 5 Option.none ∈ TB := tb3 (List.mem_of_getElem? (i := 227) rfl) rfl
theorem wd3_228 : Cond.methodLink RX1 81 yX6_canBalance ∈ TB := tb3 (List.mem_of_getElem? (i := 228) rfl) rfl
theorem wd3_229 : Cond.instanceMethod yX6_canBalance ∈ TB := tb3 (List.mem_of_getElem? (i := 229) rfl) rfl
theorem wd3_230 : Cond.selects RX6 yX6_canBalance yX6_canBalance ∈ TB := tb3 (List.mem_of_getElem? (i := 230) rfl) rfl
theorem wd3_231 : Cond.code yX6_canBalance cX6_canBalance 3 (Option.some Jvm.ClassFile.FieldType.boolean) ∈ TB := tb3 (List.mem_of_getElem? (i := 231) rfl) rfl
theorem wd3_232 : Cond.methodLink RX6 50 yX6_waysFrom ∈ TB := tb3 (List.mem_of_getElem? (i := 232) rfl) rfl
theorem wd3_234 : Cond.instanceMethod yX6_waysFrom ∈ TB := tb3 (List.mem_of_getElem? (i := 234) rfl) rfl
theorem wd3_235 : Cond.code yX6_waysFrom cX6_waysFrom 5 (Option.some Jvm.ClassFile.FieldType.int) ∈ TB := tb3 (List.mem_of_getElem? (i := 235) rfl) rfl
theorem wd3_236 : Cond.methodLink RX1 90 yX0_give ∈ TB := tb3 (List.mem_of_getElem? (i := 236) rfl) rfl
theorem wd3_237 : Cond.methodLink RL 81 yX11_firstSolution ∈ TB := tb3 (List.mem_of_getElem? (i := 237) rfl) rfl
theorem wd3_238 : Cond.instanceMethod yX11_firstSolution ∈ TB := tb3 (List.mem_of_getElem? (i := 238) rfl) rfl
theorem wd3_239 : Cond.selects RX11 yX11_firstSolution yX11_firstSolution ∈ TB := tb3 (List.mem_of_getElem? (i := 239) rfl) rfl
theorem wd4_0 : Cond.code yX11_firstSolution cX11_firstSolution 3 (Option.some Jvm.ClassFile.FieldType.int) ∈ TB := tb4 (List.mem_of_getElem? (i := 0) rfl) rfl
theorem wd4_1 : Cond.methodLink RX11 196 yX1_firstNumber ∈ TB := tb4 (List.mem_of_getElem? (i := 1) rfl) rfl
theorem wd4_2 : Cond.instanceMethod yX1_firstNumber ∈ TB := tb4 (List.mem_of_getElem? (i := 2) rfl) rfl
theorem wd4_3 : Cond.selects RX1 yX1_firstNumber yX1_firstNumber ∈ TB := tb4 (List.mem_of_getElem? (i := 3) rfl) rfl
theorem wd4_4 : Cond.code yX1_firstNumber cX1_firstNumber 2 (Option.some Jvm.ClassFile.FieldType.int) ∈ TB := tb4 (List.mem_of_getElem? (i := 4) rfl) rfl
theorem wd4_5 : Cond.methodLink RL 85 yX11_leastTotalLength ∈ TB := tb4 (List.mem_of_getElem? (i := 5) rfl) rfl
theorem wd4_6 : Cond.instanceMethod yX11_leastTotalLength ∈ TB := tb4 (List.mem_of_getElem? (i := 6) rfl) rfl
theorem wd4_7 : Cond.selects RX11 yX11_leastTotalLength yX11_leastTotalLength ∈ TB := tb4 (List.mem_of_getElem? (i := 7) rfl) rfl
theorem wd4_8 : Cond.code yX11_leastTotalLength cX11_leastTotalLength 2 (Option.some Jvm.ClassFile.FieldType.int) ∈ TB := tb4 (List.mem_of_getElem? (i := 8) rfl) rfl
theorem wd4_9 : Cond.methodLink RX11 199 yX1_leastTotal ∈ TB := tb4 (List.mem_of_getElem? (i := 9) rfl) rfl
theorem wd4_10 : Cond.instanceMethod yX1_leastTotal ∈ TB := tb4 (List.mem_of_getElem? (i := 10) rfl) rfl
theorem wd4_11 : Cond.selects RX1 yX1_leastTotal yX1_leastTotal ∈ TB := tb4 (List.mem_of_getElem? (i := 11) rfl) rfl
theorem wd4_12 : Cond.code yX1_leastTotal cX1_leastTotal 1 (Option.some Jvm.ClassFile.FieldType.int) ∈ TB := tb4 (List.mem_of_getElem? (i := 12) rfl) rfl
theorem wd4_13 : Cond.methodLink RL 89 yX11_countLengths ∈ TB := tb4 (List.mem_of_getElem? (i := 13) rfl) rfl
theorem wd4_14 : Cond.instanceMethod yX11_countLengths ∈ TB := tb4 (List.mem_of_getElem? (i := 14) rfl) rfl
theorem wd4_15 : Cond.selects RX11 yX11_countLengths yX11_countLengths ∈ TB := tb4 (List.mem_of_getElem? (i := 15) rfl) rfl
theorem wd4_16 : Cond.code yX11_countLengths cX11_countLengths 2 (Option.some Jvm.ClassFile.FieldType.int) ∈ TB := tb4 (List.mem_of_getElem? (i := 16) rfl) rfl
theorem wd4_17 : Cond.methodLink RX11 202 yX6_prepare ∈ TB := tb4 (List.mem_of_getElem? (i := 17) rfl) rfl
theorem wd4_18 : Cond.methodLink RX11 206 yX6_solutions ∈ TB := tb4 (List.mem_of_getElem? (i := 18) rfl) rfl
theorem wd4_19 : Cond.instanceMethod yX6_solutions ∈ TB := tb4 (List.mem_of_getElem? (i := 19) rfl) rfl
theorem wd4_20 : Cond.selects RX6 yX6_solutions yX6_solutions ∈ TB := tb4 (List.mem_of_getElem? (i := 20) rfl) rfl
theorem wd4_21 : Cond.code yX6_solutions cX6_solutions 1 (Option.some Jvm.ClassFile.FieldType.int) ∈ TB := tb4 (List.mem_of_getElem? (i := 21) rfl) rfl
theorem wd4_22 : Cond.methodLink RL 93 yX11_refutedByCounting ∈ TB := tb4 (List.mem_of_getElem? (i := 22) rfl) rfl
theorem wd4_23 : Cond.instanceMethod yX11_refutedByCounting ∈ TB := tb4 (List.mem_of_getElem? (i := 23) rfl) rfl
theorem wd4_24 : Cond.selects RX11 yX11_refutedByCounting yX11_refutedByCounting ∈ TB := tb4 (List.mem_of_getElem? (i := 24) rfl) rfl
theorem wd4_25 : Cond.code yX11_refutedByCounting cX11_refutedByCounting 2 (Option.some Jvm.ClassFile.FieldType.int) ∈ TB := tb4 (List.mem_of_getElem? (i := 25) rfl) rfl
theorem wd4_26 : Cond.methodLink RX11 208 yX2_surplus ∈ TB := tb4 (List.mem_of_getElem? (i := 26) rfl) rfl
theorem wd4_27 : Cond.methodLink RL 97 yX11_decide ∈ TB := tb4 (List.mem_of_getElem? (i := 27) rfl) rfl
theorem wd4_28 : Cond.instanceMethod yX11_decide ∈ TB := tb4 (List.mem_of_getElem? (i := 28) rfl) rfl
theorem wd4_29 : Cond.selects RX11 yX11_decide yX11_decide ∈ TB := tb4 (List.mem_of_getElem? (i := 29) rfl) rfl
theorem wd4_30 : Cond.code yX11_decide cX11_decide 1 (Option.some Jvm.ClassFile.FieldType.int) ∈ TB := tb4 (List.mem_of_getElem? (i := 30) rfl) rfl
theorem wd4_31 : Cond.methodLink RX11 211 yX7_answerFor ∈ TB := tb4 (List.mem_of_getElem? (i := 31) rfl) rfl
theorem wd4_32 : Cond.instanceMethod yX7_answerFor ∈ TB := tb4 (List.mem_of_getElem? (i := 32) rfl) rfl
theorem wd4_33 : Cond.selects RX7 yX7_answerFor yX7_answerFor ∈ TB := tb4 (List.mem_of_getElem? (i := 33) rfl) rfl
theorem wd4_34 : Cond.code yX7_answerFor cX7_answerFor 3 (Option.some Jvm.ClassFile.FieldType.int) ∈ TB := tb4 (List.mem_of_getElem? (i := 34) rfl) rfl
theorem wd4_35 : Cond.methodLink RX7 48 yX7_addNode ∈ TB := tb4 (List.mem_of_getElem? (i := 35) rfl) rfl
theorem wd4_37 : Cond.instanceMethod yX7_addNode ∈ TB := tb4 (List.mem_of_getElem? (i := 37) rfl) rfl
theorem wd4_38 : Cond.code yX7_addNode cX7_addNode 7 Option.none ∈ TB := tb4 (List.mem_of_getElem? (i := 38) rfl) rfl
theorem wd4_39 : Cond.methodLink RX7 114 yX7_isKnown ∈ TB := tb4 (List.mem_of_getElem? (i := 39) rfl) rfl
theorem wd4_41 : Cond.instanceMethod yX7_isKnown ∈ TB := tb4 (List.mem_of_getElem? (i := 41) rfl) rfl
theorem wd4_42 : Cond.code yX7_isKnown cX7_isKnown 6 (Option.some Jvm.ClassFile.FieldType.boolean) ∈ TB := tb4 (List.mem_of_getElem? (i := 42) rfl) rfl
theorem wd4_43 : Cond.methodLink RX7 56 yX7_isNode ∈ TB := tb4 (List.mem_of_getElem? (i := 43) rfl) rfl
theorem wd4_45 : Cond.instanceMethod yX7_isNode ∈ TB := tb4 (List.mem_of_getElem? (i := 45) rfl) rfl
theorem wd4_46 : Cond.code yX7_isNode cX7_isNode 2 (Option.some Jvm.ClassFile.FieldType.boolean) ∈ TB := tb4 (List.mem_of_getElem? (i := 46) rfl) rfl
theorem wd4_47 : Cond.methodLink RX7 52 yX7_addChildren ∈ TB := tb4 (List.mem_of_getElem? (i := 47) rfl) rfl
theorem wd4_49 : Cond.instanceMethod yX7_addChildren ∈ TB := tb4 (List.mem_of_getElem? (i := 49) rfl) rfl
theorem wd4_50 : Cond.code yX7_addChildren cX7_addChildren 6 Option.none ∈ TB := tb4 (List.mem_of_getElem? (i := 50) rfl) rfl
theorem wd4_51 : Cond.methodLink RX7 73 yX9_head ∈ TB := tb4 (List.mem_of_getElem? (i := 51) rfl) rfl
theorem wd4_52 : Cond.methodLink RX7 87 yX9_tail ∈ TB := tb4 (List.mem_of_getElem? (i := 52) rfl) rfl
theorem wd4_53 : Cond.methodLink RX7 91 yX9_isVariableSymbol ∈ TB := tb4 (List.mem_of_getElem? (i := 53) rfl) rfl
theorem wd4_54 : Cond.methodLink RX7 94 yX7_addWithout ∈ TB := tb4 (List.mem_of_getElem? (i := 54) rfl) rfl
theorem wd4_56 : Cond.instanceMethod yX7_addWithout ∈ TB := tb4 (List.mem_of_getElem? (i := 56) rfl) rfl
theorem wd4_57 : Cond.code yX7_addWithout cX7_addWithout 8 Option.none ∈ TB := tb4 (List.mem_of_getElem? (i := 57) rfl) rfl
theorem wd4_58 : Cond.methodLink RX7 102 yX9_replaced ∈ TB := tb4 (List.mem_of_getElem? (i := 58) rfl) rfl
theorem wd4_59 : Cond.methodLink RX7 98 yX7_addLonger ∈ TB := tb4 (List.mem_of_getElem? (i := 59) rfl) rfl
theorem wd4_61 : Cond.instanceMethod yX7_addLonger ∈ TB := tb4 (List.mem_of_getElem? (i := 61) rfl) rfl
theorem wd4_62 : Cond.code yX7_addLonger cX7_addLonger 12 Option.none ∈ TB := tb4 (List.mem_of_getElem? (i := 62) rfl) rfl
theorem wd4_63 : Cond.methodLink RX7 106 yX9_sizeAfter ∈ TB := tb4 (List.mem_of_getElem? (i := 63) rfl) rfl
theorem wd4_64 : Cond.methodLink RX7 110 yX9_one ∈ TB := tb4 (List.mem_of_getElem? (i := 64) rfl) rfl
theorem wd4_65 : Cond.methodLink RL 101 yX11_nodeCount ∈ TB := tb4 (List.mem_of_getElem? (i := 65) rfl) rfl
theorem wd4_66 : Cond.instanceMethod yX11_nodeCount ∈ TB := tb4 (List.mem_of_getElem? (i := 66) rfl) rfl
theorem wd4_67 : Cond.selects RX11 yX11_nodeCount yX11_nodeCount ∈ TB := tb4 (List.mem_of_getElem? (i := 67) rfl) rfl
theorem wd4_68 : Cond.code yX11_nodeCount cX11_nodeCount 1 (Option.some Jvm.ClassFile.FieldType.int) ∈ TB := tb4 (List.mem_of_getElem? (i := 68) rfl) rfl
theorem wd4_69 : Cond.methodLink RX11 215 yX7_size ∈ TB := tb4 (List.mem_of_getElem? (i := 69) rfl) rfl
theorem wd4_70 : Cond.instanceMethod yX7_size ∈ TB := tb4 (List.mem_of_getElem? (i := 70) rfl) rfl
theorem wd4_71 : Cond.selects RX7 yX7_size yX7_size ∈ TB := tb4 (List.mem_of_getElem? (i := 71) rfl) rfl
theorem wd4_72 : Cond.code yX7_size cX7_size 1 (Option.some Jvm.ClassFile.FieldType.int) ∈ TB := tb4 (List.mem_of_getElem? (i := 72) rfl) rfl
theorem wd4_73 : Cond.methodLink RL 105 yX11_proofLength ∈ TB := tb4 (List.mem_of_getElem? (i := 73) rfl) rfl
theorem wd4_74 : Cond.instanceMethod yX11_proofLength ∈ TB := tb4 (List.mem_of_getElem? (i := 74) rfl) rfl
theorem wd4_75 : Cond.selects RX11 yX11_proofLength yX11_proofLength ∈ TB := tb4 (List.mem_of_getElem? (i := 75) rfl) rfl
theorem wd4_76 : Cond.code yX11_proofLength cX11_proofLength 1 (Option.some Jvm.ClassFile.FieldType.int) ∈ TB := tb4 (List.mem_of_getElem? (i := 76) rfl) rfl
theorem wd4_77 : Cond.methodLink RX11 216 yX7_proofSize ∈ TB := tb4 (List.mem_of_getElem? (i := 77) rfl) rfl
theorem wd4_78 : Cond.instanceMethod yX7_proofSize ∈ TB := tb4 (List.mem_of_getElem? (i := 78) rfl) rfl
theorem wd4_79 : Cond.selects RX7 yX7_proofSize yX7_proofSize ∈ TB := tb4 (List.mem_of_getElem? (i := 79) rfl) rfl
theorem wd4_80 : Cond.code yX7_proofSize cX7_proofSize 1 (Option.some Jvm.ClassFile.FieldType.int) ∈ TB := tb4 (List.mem_of_getElem? (i := 80) rfl) rfl
theorem wd4_81 : Cond.methodLink RL 109 yX11_proofRule ∈ TB := tb4 (List.mem_of_getElem? (i := 81) rfl) rfl
theorem wd4_82 : Cond.instanceMethod yX11_proofRule ∈ TB := tb4 (List.mem_of_getElem? (i := 82) rfl) rfl
theorem wd4_83 : Cond.selects RX11 yX11_proofRule yX11_proofRule ∈ TB := tb4 (List.mem_of_getElem? (i := 83) rfl) rfl
theorem wd4_84 : Cond.code yX11_proofRule cX11_proofRule 2 (Option.some Jvm.ClassFile.FieldType.int) ∈ TB := tb4 (List.mem_of_getElem? (i := 84) rfl) rfl
theorem wd4_85 : Cond.methodLink RX11 219 yX7_ruleOfProof ∈ TB := tb4 (List.mem_of_getElem? (i := 85) rfl) rfl
theorem wd4_86 : Cond.instanceMethod yX7_ruleOfProof ∈ TB := tb4 (List.mem_of_getElem? (i := 86) rfl) rfl
theorem wd4_87 : Cond.selects RX7 yX7_ruleOfProof yX7_ruleOfProof ∈ TB := tb4 (List.mem_of_getElem? (i := 87) rfl) rfl
theorem wd4_88 : Cond.code yX7_ruleOfProof cX7_ruleOfProof 4 (Option.some Jvm.ClassFile.FieldType.int) ∈ TB := tb4 (List.mem_of_getElem? (i := 88) rfl) rfl
theorem wd4_89 : Cond.methodLink RX7 60 yX7_proofSize ∈ TB := tb4 (List.mem_of_getElem? (i := 89) rfl) rfl
theorem wd4_90 : Cond.methodLink RL 113 yX11_witnessLength ∈ TB := tb4 (List.mem_of_getElem? (i := 90) rfl) rfl
theorem wd4_91 : Cond.instanceMethod yX11_witnessLength ∈ TB := tb4 (List.mem_of_getElem? (i := 91) rfl) rfl
theorem wd4_92 : Cond.selects RX11 yX11_witnessLength yX11_witnessLength ∈ TB := tb4 (List.mem_of_getElem? (i := 92) rfl) rfl
theorem wd4_93 : Cond.code yX11_witnessLength cX11_witnessLength 2 (Option.some Jvm.ClassFile.FieldType.int) ∈ TB := tb4 (List.mem_of_getElem? (i := 93) rfl) rfl
theorem wd4_94 : Cond.methodLink RX11 222 yX7_buildWitness ∈ TB := tb4 (List.mem_of_getElem? (i := 94) rfl) rfl
theorem wd4_95 : Cond.instanceMethod yX7_buildWitness ∈ TB := tb4 (List.mem_of_getElem? (i := 95) rfl) rfl
theorem wd4_96 : Cond.selects RX7 yX7_buildWitness yX7_buildWitness ∈ TB := tb4 (List.mem_of_getElem? (i := 96) rfl) rfl
theorem wd4_97 : Cond.code yX7_buildWitness cX7_buildWitness 4 (Option.some Jvm.ClassFile.FieldType.boolean) ∈ TB := tb4 (List.mem_of_getElem? (i := 97) rfl) rfl
theorem wd4_98 : Cond.methodLink RX7 64 yX0_empty ∈ TB := tb4 (List.mem_of_getElem? (i := 98) rfl) rfl
theorem wd4_99 : Cond.instanceMethod yX0_empty ∈ TB := tb4 (List.mem_of_getElem? (i := 99) rfl) rfl
theorem wd4_100 : Cond.selects RX0 yX0_empty yX0_empty ∈ TB := tb4 (List.mem_of_getElem? (i := 100) rfl) rfl
theorem wd4_101 : Cond.code yX0_empty cX0_empty 2 Option.none ∈ TB := tb4 (List.mem_of_getElem? (i := 101) rfl) rfl
theorem wd4_102 : Cond.methodLink RX0 21 yX9_variable ∈ TB := tb4 (List.mem_of_getElem? (i := 102) rfl) rfl
theorem wd4_103 : Cond.methodLink RX7 69 yX7_takeRuleBack ∈ TB := tb4 (List.mem_of_getElem? (i := 103) rfl) rfl
theorem wd4_105 : Cond.instanceMethod yX7_takeRuleBack ∈ TB := tb4 (List.mem_of_getElem? (i := 105) rfl) rfl
theorem wd4_106 : Cond.code yX7_takeRuleBack cX7_takeRuleBack 6 (Option.some Jvm.ClassFile.FieldType.boolean) ∈ TB := tb4 (List.mem_of_getElem? (i := 106) rfl) rfl
theorem wd4_107 : Cond.methodLink RX7 79 yX0_give ∈ TB := tb4 (List.mem_of_getElem? (i := 107) rfl) rfl
theorem wd4_108 : Cond.methodLink RX7 83 yX0_prepend ∈ TB := tb4 (List.mem_of_getElem? (i := 108) rfl) rfl
theorem wd4_109 : Cond.instanceMethod yX0_prepend ∈ TB := tb4 (List.mem_of_getElem? (i := 109) rfl) rfl
theorem wd4_110 : Cond.selects RX0 yX0_prepend yX0_prepend ∈ TB := tb4 (List.mem_of_getElem? (i := 110) rfl) rfl
theorem wd4_111 : Cond.code yX0_prepend cX0_prepend 5 (Option.some Jvm.ClassFile.FieldType.boolean) ∈ TB := tb4 (List.mem_of_getElem? (i := 111) rfl) rfl
theorem wd4_112 : Cond.methodLink RX0 33 yX0_lengthOf ∈ TB := tb4 (List.mem_of_getElem? (i := 112) rfl) rfl
theorem wd4_113 : Cond.methodLink RL 117 yX11_witnessLetter ∈ TB := tb4 (List.mem_of_getElem? (i := 113) rfl) rfl
theorem wd4_114 : Cond.instanceMethod yX11_witnessLetter ∈ TB := tb4 (List.mem_of_getElem? (i := 114) rfl) rfl
theorem wd4_115 : Cond.selects RX11 yX11_witnessLetter yX11_witnessLetter ∈ TB := tb4 (List.mem_of_getElem? (i := 115) rfl) rfl
theorem wd4_116 : Cond.code yX11_witnessLetter cX11_witnessLetter 4 (Option.some Jvm.ClassFile.FieldType.int) ∈ TB := tb4 (List.mem_of_getElem? (i := 116) rfl) rfl
theorem wd4_117 : Cond.methodLink RX11 229 yX0_letterOf ∈ TB := tb4 (List.mem_of_getElem? (i := 117) rfl) rfl
theorem wd4_118 : Cond.instanceMethod yX0_letterOf ∈ TB := tb4 (List.mem_of_getElem? (i := 118) rfl) rfl
theorem wd4_119 : Cond.selects RX0 yX0_letterOf yX0_letterOf ∈ TB := tb4 (List.mem_of_getElem? (i := 119) rfl) rfl
theorem wd4_120 : Cond.code yX0_letterOf cX0_letterOf 4 (Option.some Jvm.ClassFile.FieldType.int) ∈ TB := tb4 (List.mem_of_getElem? (i := 120) rfl) rfl
theorem wd4_121 : Cond.methodLink RL 123 yX11_runScript ∈ TB := tb4 (List.mem_of_getElem? (i := 121) rfl) rfl
theorem wd4_122 : Cond.instanceMethod yX11_runScript ∈ TB := tb4 (List.mem_of_getElem? (i := 122) rfl) rfl
theorem wd4_123 : Cond.selects RX11 yX11_runScript yX11_runScript ∈ TB := tb4 (List.mem_of_getElem? (i := 123) rfl) rfl
theorem wd4_124 : Cond.code yX11_runScript cX11_runScript 5 (Option.some Jvm.ClassFile.FieldType.int) ∈ TB := tb4 (List.mem_of_getElem? (i := 124) rfl) rfl
theorem wd4_125 : Cond.methodLink RX11 232 yX8_withoutLast ∈ TB := tb4 (List.mem_of_getElem? (i := 125) rfl) rfl
theorem wd4_126 : Cond.static yX8_withoutLast ∈ TB := tb4 (List.mem_of_getElem? (i := 126) rfl) rfl
theorem wd4_127 : Cond.code yX8_withoutLast cX8_withoutLast 6 (Option.some Jvm.ClassFile.FieldType.long) ∈ TB := tb4 (List.mem_of_getElem? (i := 127) rfl) rfl
theorem wd4_128 : Cond.constantLong RX8 24 1000 ∈ TB := tb4 (List.mem_of_getElem? (i := 128) rfl) rfl
theorem wd4_129 : Cond.methodLink RX11 236 yX8_begin ∈ TB := tb4 (List.mem_of_getElem? (i := 129) rfl) rfl
theorem wd4_130 : Cond.instanceMethod yX8_begin ∈ TB := tb4 (List.mem_of_getElem? (i := 130) rfl) rfl
theorem wd4_131 : Cond.selects RX8 yX8_begin yX8_begin ∈ TB := tb4 (List.mem_of_getElem? (i := 131) rfl) rfl
theorem wd4_132 : Cond.code yX8_begin cX8_begin 2 Option.none ∈ TB := tb4 (List.mem_of_getElem? (i := 132) rfl) rfl
theorem wd4_133 : Cond.methodLink RX8 33 yX2_set ∈ TB := tb4 (List.mem_of_getElem? (i := 133) rfl) rfl
theorem wd4_134 : Cond.constantLong RX11 239 1000 ∈ TB := tb4 (List.mem_of_getElem? (i := 134) rfl) rfl
theorem wd4_135 : Cond.methodLink RX11 241 yX8_succeeds ∈ TB := tb4 (List.mem_of_getElem? (i := 135) rfl) rfl
theorem wd4_136 : Cond.instanceMethod yX8_succeeds ∈ TB := tb4 (List.mem_of_getElem? (i := 136) rfl) rfl
theorem wd4_137 : Cond.selects RX8 yX8_succeeds yX8_succeeds ∈ TB := tb4 (List.mem_of_getElem? (i := 137) rfl) rfl
theorem wd4_138 : Cond.code yX8_succeeds cX8_succeeds 4 (Option.some Jvm.ClassFile.FieldType.boolean) ∈ TB := tb4 (List.mem_of_getElem? (i := 138) rfl) rfl
theorem wd4_139 : Cond.methodLink RX8 37 yX8_removes ∈ TB := tb4 (List.mem_of_getElem? (i := 139) rfl) rfl
theorem wd4_141 : Cond.instanceMethod yX8_removes ∈ TB := tb4 (List.mem_of_getElem? (i := 141) rfl) rfl
theorem wd4_142 : Cond.code yX8_removes cX8_removes 2 (Option.some Jvm.ClassFile.FieldType.boolean) ∈ TB := tb4 (List.mem_of_getElem? (i := 142) rfl) rfl
theorem wd4_144 : Cond.methodLink RX8 71 yX9_variable ∈ TB := tb4 (List.mem_of_getElem? (i := 144) rfl) rfl
theorem wd4_145 : Cond.methodLink RX8 81 yX2_replace ∈ TB := tb4 (List.mem_of_getElem? (i := 145) rfl) rfl
theorem wd4_147 : Cond.methodLink RX8 46 yX2_side ∈ TB := tb4 (List.mem_of_getElem? (i := 147) rfl) rfl
theorem wd4_148 : Cond.methodLink RX8 50 yX9_size ∈ TB := tb4 (List.mem_of_getElem? (i := 148) rfl) rfl
theorem wd4_149 : Cond.methodLink RX8 56 yX1_enumerate ∈ TB := tb4 (List.mem_of_getElem? (i := 149) rfl) rfl
theorem wd4_150 : Cond.methodLink RX8 62 yX7_answerFor ∈ TB := tb4 (List.mem_of_getElem? (i := 150) rfl) rfl
theorem wd4_151 : Cond.methodLink RX8 75 yX2_total ∈ TB := tb4 (List.mem_of_getElem? (i := 151) rfl) rfl
theorem wd4_152 : Cond.methodLink RX8 78 yX8_rewrites ∈ TB := tb4 (List.mem_of_getElem? (i := 152) rfl) rfl
theorem wd4_154 : Cond.instanceMethod yX8_rewrites ∈ TB := tb4 (List.mem_of_getElem? (i := 154) rfl) rfl
theorem wd4_155 : Cond.code yX8_rewrites cX8_rewrites 2 (Option.some Jvm.ClassFile.FieldType.boolean) ∈ TB := tb4 (List.mem_of_getElem? (i := 155) rfl) rfl
theorem wd4_156 : Cond.methodLink RX8 85 yX2_swap ∈ TB := tb4 (List.mem_of_getElem? (i := 156) rfl) rfl
theorem wd4_157 : Cond.methodLink RX8 88 yX2_turn ∈ TB := tb4 (List.mem_of_getElem? (i := 157) rfl) rfl
theorem wd4_158 : Cond.methodLink RX8 91 yX2_cancelEnds ∈ TB := tb4 (List.mem_of_getElem? (i := 158) rfl) rfl
theorem wd4_159 : Cond.methodLink RL 128 yX11_randomChecks ∈ TB := tb4 (List.mem_of_getElem? (i := 159) rfl) rfl
theorem wd4_160 : Cond.instanceMethod yX11_randomChecks ∈ TB := tb4 (List.mem_of_getElem? (i := 160) rfl) rfl
theorem wd4_161 : Cond.selects RX11 yX11_randomChecks yX11_randomChecks ∈ TB := tb4 (List.mem_of_getElem? (i := 161) rfl) rfl
theorem wd4_162 : Cond.code yX11_randomChecks cX11_randomChecks 9 (Option.some Jvm.ClassFile.FieldType.int) ∈ TB := tb4 (List.mem_of_getElem? (i := 162) rfl) rfl
theorem wd4_163 : Cond.constantLong RX11 244 6364136223846793005 ∈ TB := tb4 (List.mem_of_getElem? (i := 163) rfl) rfl
theorem wd4_164 : Cond.constantLong RX11 246 1442695040888963407 ∈ TB := tb4 (List.mem_of_getElem? (i := 164) rfl) rfl
theorem wd4_165 : Cond.methodLink RL 133 yX11_save ∈ TB := tb4 (List.mem_of_getElem? (i := 165) rfl) rfl
theorem wd4_166 : Cond.instanceMethod yX11_save ∈ TB := tb4 (List.mem_of_getElem? (i := 166) rfl) rfl
theorem wd4_167 : Cond.selects RX11 yX11_save yX11_save ∈ TB := tb4 (List.mem_of_getElem? (i := 167) rfl) rfl
theorem wd4_168 : Cond.code yX11_save cX11_save 2 (Option.some Jvm.ClassFile.FieldType.int) ∈ TB := tb4 (List.mem_of_getElem? (i := 168) rfl) rfl
theorem wd4_169 : Cond.methodLink RX11 248 yX10_has ∈ TB := tb4 (List.mem_of_getElem? (i := 169) rfl) rfl
theorem wd4_170 : Cond.static yX10_has ∈ TB := tb4 (List.mem_of_getElem? (i := 170) rfl) rfl
theorem wd4_171 : Cond.code yX10_has cX10_has 1 (Option.some Jvm.ClassFile.FieldType.boolean) ∈ TB := tb4 (List.mem_of_getElem? (i := 171) rfl) rfl
theorem wd4_172 : Cond.methodLink RX11 251 yX10_store ∈ TB := tb4 (List.mem_of_getElem? (i := 172) rfl) rfl
theorem wd4_173 : Cond.instanceMethod yX10_store ∈ TB := tb4 (List.mem_of_getElem? (i := 173) rfl) rfl
theorem wd4_174 : Cond.selects RX10 yX10_store yX10_store ∈ TB := tb4 (List.mem_of_getElem? (i := 174) rfl) rfl
theorem wd4_175 : Cond.code yX10_store cX10_store 3 Option.none ∈ TB := tb4 (List.mem_of_getElem? (i := 175) rfl) rfl
theorem wd4_176 : Cond.methodLink RX10 20 yX10_has ∈ TB := tb4 (List.mem_of_getElem? (i := 176) rfl) rfl
theorem wd4_177 : Cond.methodLink RL 137 yX11_restore ∈ TB := tb4 (List.mem_of_getElem? (i := 177) rfl) rfl
theorem wd4_178 : Cond.instanceMethod yX11_restore ∈ TB := tb4 (List.mem_of_getElem? (i := 178) rfl) rfl
theorem wd4_179 : Cond.selects RX11 yX11_restore yX11_restore ∈ TB := tb4 (List.mem_of_getElem? (i := 179) rfl) rfl
theorem wd4_180 : Cond.code yX11_restore cX11_restore 2 (Option.some Jvm.ClassFile.FieldType.int) ∈ TB := tb4 (List.mem_of_getElem? (i := 180) rfl) rfl
theorem wd4_181 : Cond.methodLink RX11 255 yX10_isFilled ∈ TB := tb4 (List.mem_of_getElem? (i := 181) rfl) rfl
theorem wd4_182 : Cond.instanceMethod yX10_isFilled ∈ TB := tb4 (List.mem_of_getElem? (i := 182) rfl) rfl
theorem wd4_183 : Cond.selects RX10 yX10_isFilled yX10_isFilled ∈ TB := tb4 (List.mem_of_getElem? (i := 183) rfl) rfl
theorem wd4_184 : Cond.code yX10_isFilled cX10_isFilled 2 (Option.some Jvm.ClassFile.FieldType.boolean) ∈ TB := tb4 (List.mem_of_getElem? (i := 184) rfl) rfl
theorem wd4_185 : Cond.methodLink RX11 258 yX10_fetch ∈ TB := tb4 (List.mem_of_getElem? (i := 185) rfl) rfl
theorem wd4_186 : Cond.instanceMethod yX10_fetch ∈ TB := tb4 (List.mem_of_getElem? (i := 186) rfl) rfl
theorem wd4_187 : Cond.selects RX10 yX10_fetch yX10_fetch ∈ TB := tb4 (List.mem_of_getElem? (i := 187) rfl) rfl
theorem wd4_188 : Cond.code yX10_fetch cX10_fetch 3 Option.none ∈ TB := tb4 (List.mem_of_getElem? (i := 188) rfl) rfl
theorem wd4_189 : Cond.methodLink RX10 33 yX2_set ∈ TB := tb4 (List.mem_of_getElem? (i := 189) rfl) rfl
theorem wd4_190 : Cond.classLink RL 10 RX12 ∈ TB := tb4 (List.mem_of_getElem? (i := 190) rfl) rfl
theorem wd4_191 : Cond.instantiable RX12 35 ∈ TB := tb4 (List.mem_of_getElem? (i := 191) rfl) rfl
theorem wd4_192 : Cond.methodLink RL 12 yX12_init ∈ TB := tb4 (List.mem_of_getElem? (i := 192) rfl) rfl
theorem wd4_193 : Cond.instanceMethod yX12_init ∈ TB := tb4 (List.mem_of_getElem? (i := 193) rfl) rfl
theorem wd4_194 : Cond.code yX12_init cX12_init 1 Option.none ∈ TB := tb4 (List.mem_of_getElem? (i := 194) rfl) rfl
theorem wd4_195 : Cond.methodLink RX12 1 ⟨"java/lang/Object", "<init>", "()V"⟩ ∈ TB := tb4 (List.mem_of_getElem? (i := 195) rfl) rfl
theorem wd4_196 : Cond.fieldLink RX12 7 "WordEquationsModel" "text" "[I" ∈ TB := tb4 (List.mem_of_getElem? (i := 196) rfl) rfl
theorem wd4_197 : Cond.fieldLink RX12 93 "WordEquationsModel" "length" "I" ∈ TB := tb4 (List.mem_of_getElem? (i := 197) rfl) rfl
theorem wd4_198 : Cond.fieldLink RX12 13 "WordEquationsModel" "now" "[I" ∈ TB := tb4 (List.mem_of_getElem? (i := 198) rfl) rfl
theorem wd4_199 : Cond.fieldLink RX12 16 "WordEquationsModel" "trial" "[I" ∈ TB := tb4 (List.mem_of_getElem? (i := 199) rfl) rfl
theorem wd4_200 : Cond.fieldLink RX12 19 "WordEquationsModel" "read" "[I" ∈ TB := tb4 (List.mem_of_getElem? (i := 200) rfl) rfl
theorem wd4_201 : Cond.fieldLink RX12 22 "WordEquationsModel" "diary" "[I" ∈ TB := tb4 (List.mem_of_getElem? (i := 201) rfl) rfl
theorem wd4_202 : Cond.fieldLink RX12 127 "WordEquationsModel" "acts" "I" ∈ TB := tb4 (List.mem_of_getElem? (i := 202) rfl) rfl
theorem wd4_203 : Cond.fieldLink RX12 141 "WordEquationsModel" "next" "I" ∈ TB := tb4 (List.mem_of_getElem? (i := 203) rfl) rfl
theorem wd4_204 : Cond.fieldLink RX12 25 "WordEquationsModel" "kept" "[I" ∈ TB := tb4 (List.mem_of_getElem? (i := 204) rfl) rfl
theorem wd4_205 : Cond.fieldLink RX12 28 "WordEquationsModel" "isKept" "[Z" ∈ TB := tb4 (List.mem_of_getElem? (i := 205) rfl) rfl
theorem wd4_206 : Cond.fieldLink RX12 77 "WordEquationsModel" "many" "I" ∈ TB := tb4 (List.mem_of_getElem? (i := 206) rfl) rfl
theorem wd4_207 : Cond.fieldLink RX12 32 "WordEquationsModel" "constraint" "[I" ∈ TB := tb4 (List.mem_of_getElem? (i := 207) rfl) rfl
theorem wd4_208 : Cond.fieldLink RX12 96 "WordEquationsModel" "readMany" "I" ∈ TB := tb4 (List.mem_of_getElem? (i := 208) rfl) rfl
theorem wd4_209 : Cond.fieldLink RX12 35 "WordEquationsModel" "readConstraint" "[I" ∈ TB := tb4 (List.mem_of_getElem? (i := 209) rfl) rfl
theorem wd4_210 : Cond.fieldLink RX12 38 "WordEquationsModel" "word" "[I" ∈ TB := tb4 (List.mem_of_getElem? (i := 210) rfl) rfl
theorem wd4_211 : Cond.fieldLink RX12 41 "WordEquationsModel" "size" "[I" ∈ TB := tb4 (List.mem_of_getElem? (i := 211) rfl) rfl
theorem wd4_212 : Cond.fieldLink RX12 44 "WordEquationsModel" "number" "[I" ∈ TB := tb4 (List.mem_of_getElem? (i := 212) rfl) rfl
theorem wd4_213 : Cond.fieldLink RX12 47 "WordEquationsModel" "firstOne" "[I" ∈ TB := tb4 (List.mem_of_getElem? (i := 213) rfl) rfl
theorem wd4_214 : Cond.fieldLink RX12 180 "WordEquationsModel" "found" "I" ∈ TB := tb4 (List.mem_of_getElem? (i := 214) rfl) rfl
theorem wd4_215 : Cond.fieldLink RX12 183 "WordEquationsModel" "shortest" "I" ∈ TB := tb4 (List.mem_of_getElem? (i := 215) rfl) rfl
theorem wd4_216 : Cond.fieldLink RX12 50 "WordEquationsModel" "node" "[I" ∈ TB := tb4 (List.mem_of_getElem? (i := 216) rfl) rfl
theorem wd4_217 : Cond.fieldLink RX12 53 "WordEquationsModel" "parent" "[I" ∈ TB := tb4 (List.mem_of_getElem? (i := 217) rfl) rfl
theorem wd4_218 : Cond.fieldLink RX12 56 "WordEquationsModel" "rule" "[I" ∈ TB := tb4 (List.mem_of_getElem? (i := 218) rfl) rfl
theorem wd4_219 : Cond.fieldLink RX12 200 "WordEquationsModel" "nodes" "I" ∈ TB := tb4 (List.mem_of_getElem? (i := 219) rfl) rfl
theorem wd4_220 : Cond.fieldLink RX12 213 "WordEquationsModel" "solved" "I" ∈ TB := tb4 (List.mem_of_getElem? (i := 220) rfl) rfl
theorem wd4_221 : Cond.fieldLink RX12 207 "WordEquationsModel" "dropped" "Z" ∈ TB := tb4 (List.mem_of_getElem? (i := 221) rfl) rfl
theorem wd4_222 : Cond.fieldLink RX12 59 "WordEquationsModel" "child" "[I" ∈ TB := tb4 (List.mem_of_getElem? (i := 222) rfl) rfl
theorem wd4_223 : Cond.fieldLink RX12 194 "WordEquationsModel" "fits" "Z" ∈ TB := tb4 (List.mem_of_getElem? (i := 223) rfl) rfl
theorem wd4_224 : Cond.fieldLink RX12 62 "WordEquationsModel" "proof" "[I" ∈ TB := tb4 (List.mem_of_getElem? (i := 224) rfl) rfl
theorem wd4_225 : Cond.fieldLink RX12 230 "WordEquationsModel" "proofSize" "I" ∈ TB := tb4 (List.mem_of_getElem? (i := 225) rfl) rfl
theorem wd4_226 : Cond.fieldLink RX12 65 "WordEquationsModel" "witness" "[I" ∈ TB := tb4 (List.mem_of_getElem? (i := 226) rfl) rfl
theorem wd4_227 : Cond.fieldLink RX12 68 "WordEquationsModel" "witnessSize" "[I" ∈ TB := tb4 (List.mem_of_getElem? (i := 227) rfl) rfl
theorem wd4_228 : Cond.fieldLink RX12 237 "WordEquationsModel" "tooLong" "Z" ∈ TB := tb4 (List.mem_of_getElem? (i := 228) rfl) rfl
theorem wd4_229 : Cond.fieldLink RX12 71 "WordEquationsModel" "built" "[I" ∈ TB := tb4 (List.mem_of_getElem? (i := 229) rfl) rfl
theorem wd4_230 : Cond.fieldLink RX12 74 "WordEquationsModel" "copyRow" "[I" ∈ TB := tb4 (List.mem_of_getElem? (i := 230) rfl) rfl
theorem wd4_231 : Cond.laysFinal RX12 "WordEquationsModel" "text" "[I" ∈ TB := tb4 (List.mem_of_getElem? (i := 231) rfl) rfl
theorem wd4_233 : Cond.lays RX12 "WordEquationsModel" "length" "I" ∈ TB := tb4 (List.mem_of_getElem? (i := 233) rfl) rfl
theorem wd4_235 : Cond.laysFinal RX12 "WordEquationsModel" "now" "[I" ∈ TB := tb4 (List.mem_of_getElem? (i := 235) rfl) rfl
theorem wd4_237 : Cond.laysFinal RX12 "WordEquationsModel" "trial" "[I" ∈ TB := tb4 (List.mem_of_getElem? (i := 237) rfl) rfl
theorem wd4_239 : Cond.laysFinal RX12 "WordEquationsModel" "read" "[I" ∈ TB := tb4 (List.mem_of_getElem? (i := 239) rfl) rfl
theorem wd5_1 : Cond.laysFinal RX12 "WordEquationsModel" "diary" "[I" ∈ TB := tb5 (List.mem_of_getElem? (i := 1) rfl) rfl
theorem wd5_3 : Cond.lays RX12 "WordEquationsModel" "acts" "I" ∈ TB := tb5 (List.mem_of_getElem? (i := 3) rfl) rfl
theorem wd5_5 : Cond.lays RX12 "WordEquationsModel" "next" "I" ∈ TB := tb5 (List.mem_of_getElem? (i := 5) rfl) rfl
theorem wd5_7 : Cond.laysFinal RX12 "WordEquationsModel" "kept" "[I" ∈ TB := tb5 (List.mem_of_getElem? (i := 7) rfl) rfl
theorem wd5_9 : Cond.laysFinal RX12 "WordEquationsModel" "isKept" "[Z" ∈ TB := tb5 (List.mem_of_getElem? (i := 9) rfl) rfl
theorem wd5_11 : Cond.lays RX12 "WordEquationsModel" "many" "I" ∈ TB := tb5 (List.mem_of_getElem? (i := 11) rfl) rfl
theorem wd5_13 : Cond.laysFinal RX12 "WordEquationsModel" "constraint" "[I" ∈ TB := tb5 (List.mem_of_getElem? (i := 13) rfl) rfl
theorem wd5_15 : Cond.lays RX12 "WordEquationsModel" "readMany" "I" ∈ TB := tb5 (List.mem_of_getElem? (i := 15) rfl) rfl
theorem wd5_17 : Cond.laysFinal RX12 "WordEquationsModel" "readConstraint" "[I" ∈ TB := tb5 (List.mem_of_getElem? (i := 17) rfl) rfl
theorem wd5_19 : Cond.laysFinal RX12 "WordEquationsModel" "word" "[I" ∈ TB := tb5 (List.mem_of_getElem? (i := 19) rfl) rfl
theorem wd5_21 : Cond.laysFinal RX12 "WordEquationsModel" "size" "[I" ∈ TB := tb5 (List.mem_of_getElem? (i := 21) rfl) rfl
theorem wd5_23 : Cond.laysFinal RX12 "WordEquationsModel" "number" "[I" ∈ TB := tb5 (List.mem_of_getElem? (i := 23) rfl) rfl
theorem wd5_25 : Cond.laysFinal RX12 "WordEquationsModel" "firstOne" "[I" ∈ TB := tb5 (List.mem_of_getElem? (i := 25) rfl) rfl
theorem wd5_27 : Cond.lays RX12 "WordEquationsModel" "found" "I" ∈ TB := tb5 (List.mem_of_getElem? (i := 27) rfl) rfl
theorem wd5_29 : Cond.lays RX12 "WordEquationsModel" "shortest" "I" ∈ TB := tb5 (List.mem_of_getElem? (i := 29) rfl) rfl
theorem wd5_31 : Cond.laysFinal RX12 "WordEquationsModel" "node" "[I" ∈ TB := tb5 (List.mem_of_getElem? (i := 31) rfl) rfl
theorem wd5_33 : Cond.laysFinal RX12 "WordEquationsModel" "parent" "[I" ∈ TB := tb5 (List.mem_of_getElem? (i := 33) rfl) rfl
theorem wd5_35 : Cond.laysFinal RX12 "WordEquationsModel" "rule" "[I" ∈ TB := tb5 (List.mem_of_getElem? (i := 35) rfl) rfl
theorem wd5_37 : Cond.lays RX12 "WordEquationsModel" "nodes" "I" ∈ TB := tb5 (List.mem_of_getElem? (i := 37) rfl) rfl
theorem wd5_39 : Cond.lays RX12 "WordEquationsModel" "solved" "I" ∈ TB := tb5 (List.mem_of_getElem? (i := 39) rfl) rfl
theorem wd5_41 : Cond.lays RX12 "WordEquationsModel" "dropped" "Z" ∈ TB := tb5 (List.mem_of_getElem? (i := 41) rfl) rfl
theorem wd5_43 : Cond.laysFinal RX12 "WordEquationsModel" "child" "[I" ∈ TB := tb5 (List.mem_of_getElem? (i := 43) rfl) rfl
theorem wd5_45 : Cond.lays RX12 "WordEquationsModel" "fits" "Z" ∈ TB := tb5 (List.mem_of_getElem? (i := 45) rfl) rfl
theorem wd5_47 : Cond.laysFinal RX12 "WordEquationsModel" "proof" "[I" ∈ TB := tb5 (List.mem_of_getElem? (i := 47) rfl) rfl
theorem wd5_49 : Cond.lays RX12 "WordEquationsModel" "proofSize" "I" ∈ TB := tb5 (List.mem_of_getElem? (i := 49) rfl) rfl
theorem wd5_51 : Cond.laysFinal RX12 "WordEquationsModel" "witness" "[I" ∈ TB := tb5 (List.mem_of_getElem? (i := 51) rfl) rfl
theorem wd5_53 : Cond.laysFinal RX12 "WordEquationsModel" "witnessSize" "[I" ∈ TB := tb5 (List.mem_of_getElem? (i := 53) rfl) rfl
theorem wd5_55 : Cond.lays RX12 "WordEquationsModel" "tooLong" "Z" ∈ TB := tb5 (List.mem_of_getElem? (i := 55) rfl) rfl
theorem wd5_57 : Cond.laysFinal RX12 "WordEquationsModel" "built" "[I" ∈ TB := tb5 (List.mem_of_getElem? (i := 57) rfl) rfl
theorem wd5_59 : Cond.laysFinal RX12 "WordEquationsModel" "copyRow" "[I" ∈ TB := tb5 (List.mem_of_getElem? (i := 59) rfl) rfl
theorem wd5_62 : Cond.methodLink RL 17 yX12_append ∈ TB := tb5 (List.mem_of_getElem? (i := 62) rfl) rfl
theorem wd5_63 : Cond.instanceMethod yX12_append ∈ TB := tb5 (List.mem_of_getElem? (i := 63) rfl) rfl
theorem wd5_64 : Cond.selects RX12 yX12_append yX12_append ∈ TB := tb5 (List.mem_of_getElem? (i := 64) rfl) rfl
theorem wd5_65 : Cond.code yX12_append cX12_append 2 (Option.some Jvm.ClassFile.FieldType.int) ∈ TB := tb5 (List.mem_of_getElem? (i := 65) rfl) rfl
theorem wd5_66 : Cond.constantLong RX12 91 255 ∈ TB := tb5 (List.mem_of_getElem? (i := 66) rfl) rfl
theorem wd5_67 : Cond.methodLink RX12 85 yX12_in ∈ TB := tb5 (List.mem_of_getElem? (i := 67) rfl) rfl
theorem wd5_68 : Cond.static yX12_in ∈ TB := tb5 (List.mem_of_getElem? (i := 68) rfl) rfl
theorem wd5_69 : Cond.code yX12_in cX12_in 6 (Option.some Jvm.ClassFile.FieldType.boolean) ∈ TB := tb5 (List.mem_of_getElem? (i := 69) rfl) rfl
theorem wd5_70 : Cond.methodLink RL 22 yX12_clearText ∈ TB := tb5 (List.mem_of_getElem? (i := 70) rfl) rfl
theorem wd5_71 : Cond.instanceMethod yX12_clearText ∈ TB := tb5 (List.mem_of_getElem? (i := 71) rfl) rfl
theorem wd5_72 : Cond.selects RX12 yX12_clearText yX12_clearText ∈ TB := tb5 (List.mem_of_getElem? (i := 72) rfl) rfl
theorem wd5_73 : Cond.code yX12_clearText cX12_clearText 2 (Option.some Jvm.ClassFile.FieldType.int) ∈ TB := tb5 (List.mem_of_getElem? (i := 73) rfl) rfl
theorem wd5_74 : Cond.methodLink RL 26 yX12_errorPosition ∈ TB := tb5 (List.mem_of_getElem? (i := 74) rfl) rfl
theorem wd5_75 : Cond.instanceMethod yX12_errorPosition ∈ TB := tb5 (List.mem_of_getElem? (i := 75) rfl) rfl
theorem wd5_76 : Cond.selects RX12 yX12_errorPosition yX12_errorPosition ∈ TB := tb5 (List.mem_of_getElem? (i := 76) rfl) rfl
theorem wd5_77 : Cond.code yX12_errorPosition cX12_errorPosition 1 (Option.some Jvm.ClassFile.FieldType.int) ∈ TB := tb5 (List.mem_of_getElem? (i := 77) rfl) rfl
theorem wd5_78 : Cond.methodLink RX12 119 yX12_readText ∈ TB := tb5 (List.mem_of_getElem? (i := 78) rfl) rfl
theorem wd5_80 : Cond.instanceMethod yX12_readText ∈ TB := tb5 (List.mem_of_getElem? (i := 80) rfl) rfl
theorem wd5_81 : Cond.code yX12_readText cX12_readText 7 (Option.some Jvm.ClassFile.FieldType.int) ∈ TB := tb5 (List.mem_of_getElem? (i := 81) rfl) rfl
theorem wd5_82 : Cond.methodLink RX12 107 yX12_symbolOf ∈ TB := tb5 (List.mem_of_getElem? (i := 82) rfl) rfl
theorem wd5_83 : Cond.static yX12_symbolOf ∈ TB := tb5 (List.mem_of_getElem? (i := 83) rfl) rfl
theorem wd5_84 : Cond.code yX12_symbolOf cX12_symbolOf 1 (Option.some Jvm.ClassFile.FieldType.int) ∈ TB := tb5 (List.mem_of_getElem? (i := 84) rfl) rfl
theorem wd5_85 : Cond.constantLong RX12 81 87 ∈ TB := tb5 (List.mem_of_getElem? (i := 85) rfl) rfl
theorem wd5_86 : Cond.constantLong RX12 83 90 ∈ TB := tb5 (List.mem_of_getElem? (i := 86) rfl) rfl
theorem wd5_87 : Cond.methodLink RX12 111 yX12_at ∈ TB := tb5 (List.mem_of_getElem? (i := 87) rfl) rfl
theorem wd5_88 : Cond.static yX12_at ∈ TB := tb5 (List.mem_of_getElem? (i := 88) rfl) rfl
theorem wd5_89 : Cond.code yX12_at cX12_at 2 (Option.some Jvm.ClassFile.FieldType.int) ∈ TB := tb5 (List.mem_of_getElem? (i := 89) rfl) rfl
theorem wd5_90 : Cond.methodLink RX12 115 yX12_takeOfConstraint ∈ TB := tb5 (List.mem_of_getElem? (i := 90) rfl) rfl
theorem wd5_92 : Cond.instanceMethod yX12_takeOfConstraint ∈ TB := tb5 (List.mem_of_getElem? (i := 92) rfl) rfl
theorem wd5_93 : Cond.code yX12_takeOfConstraint cX12_takeOfConstraint 4 (Option.some Jvm.ClassFile.FieldType.boolean) ∈ TB := tb5 (List.mem_of_getElem? (i := 93) rfl) rfl
theorem wd5_94 : Cond.constantLong RX12 99 60 ∈ TB := tb5 (List.mem_of_getElem? (i := 94) rfl) rfl
theorem wd5_95 : Cond.constantLong RX12 101 62 ∈ TB := tb5 (List.mem_of_getElem? (i := 95) rfl) rfl
theorem wd5_96 : Cond.constantLong RX12 103 48 ∈ TB := tb5 (List.mem_of_getElem? (i := 96) rfl) rfl
theorem wd5_97 : Cond.constantLong RX12 105 57 ∈ TB := tb5 (List.mem_of_getElem? (i := 97) rfl) rfl
theorem wd5_98 : Cond.methodLink RL 30 yX12_load ∈ TB := tb5 (List.mem_of_getElem? (i := 98) rfl) rfl
theorem wd5_99 : Cond.instanceMethod yX12_load ∈ TB := tb5 (List.mem_of_getElem? (i := 99) rfl) rfl
theorem wd5_100 : Cond.selects RX12 yX12_load yX12_load ∈ TB := tb5 (List.mem_of_getElem? (i := 100) rfl) rfl
theorem wd5_101 : Cond.code yX12_load cX12_load 2 (Option.some Jvm.ClassFile.FieldType.int) ∈ TB := tb5 (List.mem_of_getElem? (i := 101) rfl) rfl
theorem wd5_102 : Cond.methodLink RX12 123 yX12_copy ∈ TB := tb5 (List.mem_of_getElem? (i := 102) rfl) rfl
theorem wd5_103 : Cond.static yX12_copy ∈ TB := tb5 (List.mem_of_getElem? (i := 103) rfl) rfl
theorem wd5_104 : Cond.code yX12_copy cX12_copy 3 Option.none ∈ TB := tb5 (List.mem_of_getElem? (i := 104) rfl) rfl
theorem wd5_105 : Cond.methodLink RL 34 yX12_sideLength ∈ TB := tb5 (List.mem_of_getElem? (i := 105) rfl) rfl
theorem wd5_106 : Cond.instanceMethod yX12_sideLength ∈ TB := tb5 (List.mem_of_getElem? (i := 106) rfl) rfl
theorem wd5_107 : Cond.selects RX12 yX12_sideLength yX12_sideLength ∈ TB := tb5 (List.mem_of_getElem? (i := 107) rfl) rfl
theorem wd5_108 : Cond.code yX12_sideLength cX12_sideLength 2 (Option.some Jvm.ClassFile.FieldType.int) ∈ TB := tb5 (List.mem_of_getElem? (i := 108) rfl) rfl
theorem wd5_109 : Cond.methodLink RL 39 yX12_symbolAt ∈ TB := tb5 (List.mem_of_getElem? (i := 109) rfl) rfl
theorem wd5_110 : Cond.instanceMethod yX12_symbolAt ∈ TB := tb5 (List.mem_of_getElem? (i := 110) rfl) rfl
theorem wd5_111 : Cond.selects RX12 yX12_symbolAt yX12_symbolAt ∈ TB := tb5 (List.mem_of_getElem? (i := 111) rfl) rfl
theorem wd5_112 : Cond.code yX12_symbolAt cX12_symbolAt 3 (Option.some Jvm.ClassFile.FieldType.int) ∈ TB := tb5 (List.mem_of_getElem? (i := 112) rfl) rfl
theorem wd5_113 : Cond.methodLink RX12 130 yX12_charOf ∈ TB := tb5 (List.mem_of_getElem? (i := 113) rfl) rfl
theorem wd5_114 : Cond.static yX12_charOf ∈ TB := tb5 (List.mem_of_getElem? (i := 114) rfl) rfl
theorem wd5_115 : Cond.code yX12_charOf cX12_charOf 1 (Option.some Jvm.ClassFile.FieldType.int) ∈ TB := tb5 (List.mem_of_getElem? (i := 115) rfl) rfl
theorem wd5_116 : Cond.methodLink RL 43 yX12_occurrences ∈ TB := tb5 (List.mem_of_getElem? (i := 116) rfl) rfl
theorem wd5_117 : Cond.instanceMethod yX12_occurrences ∈ TB := tb5 (List.mem_of_getElem? (i := 117) rfl) rfl
theorem wd5_118 : Cond.selects RX12 yX12_occurrences yX12_occurrences ∈ TB := tb5 (List.mem_of_getElem? (i := 118) rfl) rfl
theorem wd5_119 : Cond.code yX12_occurrences cX12_occurrences 3 (Option.some Jvm.ClassFile.FieldType.int) ∈ TB := tb5 (List.mem_of_getElem? (i := 119) rfl) rfl
theorem wd5_120 : Cond.methodLink RX12 133 yX12_isVariable ∈ TB := tb5 (List.mem_of_getElem? (i := 120) rfl) rfl
theorem wd5_121 : Cond.static yX12_isVariable ∈ TB := tb5 (List.mem_of_getElem? (i := 121) rfl) rfl
theorem wd5_122 : Cond.code yX12_isVariable cX12_isVariable 1 (Option.some Jvm.ClassFile.FieldType.boolean) ∈ TB := tb5 (List.mem_of_getElem? (i := 122) rfl) rfl
theorem wd5_123 : Cond.constantLong RX12 89 3 ∈ TB := tb5 (List.mem_of_getElem? (i := 123) rfl) rfl
theorem wd5_124 : Cond.methodLink RX12 137 yX12_countOf ∈ TB := tb5 (List.mem_of_getElem? (i := 124) rfl) rfl
theorem wd5_125 : Cond.static yX12_countOf ∈ TB := tb5 (List.mem_of_getElem? (i := 125) rfl) rfl
theorem wd5_126 : Cond.code yX12_countOf cX12_countOf 5 (Option.some Jvm.ClassFile.FieldType.int) ∈ TB := tb5 (List.mem_of_getElem? (i := 126) rfl) rfl
theorem wd5_127 : Cond.methodLink RL 47 yX12_swapSides ∈ TB := tb5 (List.mem_of_getElem? (i := 127) rfl) rfl
theorem wd5_128 : Cond.instanceMethod yX12_swapSides ∈ TB := tb5 (List.mem_of_getElem? (i := 128) rfl) rfl
theorem wd5_129 : Cond.selects RX12 yX12_swapSides yX12_swapSides ∈ TB := tb5 (List.mem_of_getElem? (i := 129) rfl) rfl
theorem wd5_130 : Cond.code yX12_swapSides cX12_swapSides 1 (Option.some Jvm.ClassFile.FieldType.int) ∈ TB := tb5 (List.mem_of_getElem? (i := 130) rfl) rfl
theorem wd5_131 : Cond.methodLink RX12 144 yX12_note ∈ TB := tb5 (List.mem_of_getElem? (i := 131) rfl) rfl
theorem wd5_133 : Cond.instanceMethod yX12_note ∈ TB := tb5 (List.mem_of_getElem? (i := 133) rfl) rfl
theorem wd5_134 : Cond.code yX12_note cX12_note 2 Option.none ∈ TB := tb5 (List.mem_of_getElem? (i := 134) rfl) rfl
theorem wd5_135 : Cond.methodLink RX12 147 yX12_swapIn ∈ TB := tb5 (List.mem_of_getElem? (i := 135) rfl) rfl
theorem wd5_136 : Cond.static yX12_swapIn ∈ TB := tb5 (List.mem_of_getElem? (i := 136) rfl) rfl
theorem wd5_137 : Cond.code yX12_swapIn cX12_swapIn 4 Option.none ∈ TB := tb5 (List.mem_of_getElem? (i := 137) rfl) rfl
theorem wd5_138 : Cond.methodLink RL 51 yX12_reverse ∈ TB := tb5 (List.mem_of_getElem? (i := 138) rfl) rfl
theorem wd5_139 : Cond.instanceMethod yX12_reverse ∈ TB := tb5 (List.mem_of_getElem? (i := 139) rfl) rfl
theorem wd5_140 : Cond.selects RX12 yX12_reverse yX12_reverse ∈ TB := tb5 (List.mem_of_getElem? (i := 140) rfl) rfl
theorem wd5_141 : Cond.code yX12_reverse cX12_reverse 1 (Option.some Jvm.ClassFile.FieldType.int) ∈ TB := tb5 (List.mem_of_getElem? (i := 141) rfl) rfl
theorem wd5_142 : Cond.methodLink RX12 151 yX12_reverseIn ∈ TB := tb5 (List.mem_of_getElem? (i := 142) rfl) rfl
theorem wd5_143 : Cond.static yX12_reverseIn ∈ TB := tb5 (List.mem_of_getElem? (i := 143) rfl) rfl
theorem wd5_144 : Cond.code yX12_reverseIn cX12_reverseIn 5 Option.none ∈ TB := tb5 (List.mem_of_getElem? (i := 144) rfl) rfl
theorem wd5_145 : Cond.methodLink RL 55 yX12_cancel ∈ TB := tb5 (List.mem_of_getElem? (i := 145) rfl) rfl
theorem wd5_146 : Cond.instanceMethod yX12_cancel ∈ TB := tb5 (List.mem_of_getElem? (i := 146) rfl) rfl
theorem wd5_147 : Cond.selects RX12 yX12_cancel yX12_cancel ∈ TB := tb5 (List.mem_of_getElem? (i := 147) rfl) rfl
theorem wd5_148 : Cond.code yX12_cancel cX12_cancel 1 (Option.some Jvm.ClassFile.FieldType.int) ∈ TB := tb5 (List.mem_of_getElem? (i := 148) rfl) rfl
theorem wd5_149 : Cond.methodLink RX12 158 yX12_cancelIn ∈ TB := tb5 (List.mem_of_getElem? (i := 149) rfl) rfl
theorem wd5_150 : Cond.static yX12_cancelIn ∈ TB := tb5 (List.mem_of_getElem? (i := 150) rfl) rfl
theorem wd5_151 : Cond.code yX12_cancelIn cX12_cancelIn 2 (Option.some Jvm.ClassFile.FieldType.int) ∈ TB := tb5 (List.mem_of_getElem? (i := 151) rfl) rfl
theorem wd5_152 : Cond.methodLink RX12 154 yX12_dropFirst ∈ TB := tb5 (List.mem_of_getElem? (i := 152) rfl) rfl
theorem wd5_153 : Cond.static yX12_dropFirst ∈ TB := tb5 (List.mem_of_getElem? (i := 153) rfl) rfl
theorem wd5_154 : Cond.code yX12_dropFirst cX12_dropFirst 3 Option.none ∈ TB := tb5 (List.mem_of_getElem? (i := 154) rfl) rfl
theorem wd5_155 : Cond.methodLink RL 59 yX12_exchangeLetters ∈ TB := tb5 (List.mem_of_getElem? (i := 155) rfl) rfl
theorem wd5_156 : Cond.instanceMethod yX12_exchangeLetters ∈ TB := tb5 (List.mem_of_getElem? (i := 156) rfl) rfl
theorem wd5_157 : Cond.selects RX12 yX12_exchangeLetters yX12_exchangeLetters ∈ TB := tb5 (List.mem_of_getElem? (i := 157) rfl) rfl
theorem wd5_158 : Cond.code yX12_exchangeLetters cX12_exchangeLetters 5 (Option.some Jvm.ClassFile.FieldType.int) ∈ TB := tb5 (List.mem_of_getElem? (i := 158) rfl) rfl
theorem wd5_159 : Cond.methodLink RL 63 yX12_eliminate ∈ TB := tb5 (List.mem_of_getElem? (i := 159) rfl) rfl
theorem wd5_160 : Cond.instanceMethod yX12_eliminate ∈ TB := tb5 (List.mem_of_getElem? (i := 160) rfl) rfl
theorem wd5_161 : Cond.selects RX12 yX12_eliminate yX12_eliminate ∈ TB := tb5 (List.mem_of_getElem? (i := 161) rfl) rfl
theorem wd5_162 : Cond.code yX12_eliminate cX12_eliminate 2 (Option.some Jvm.ClassFile.FieldType.int) ∈ TB := tb5 (List.mem_of_getElem? (i := 162) rfl) rfl
theorem wd5_163 : Cond.methodLink RX12 162 yX12_eliminateIn ∈ TB := tb5 (List.mem_of_getElem? (i := 163) rfl) rfl
theorem wd5_164 : Cond.static yX12_eliminateIn ∈ TB := tb5 (List.mem_of_getElem? (i := 164) rfl) rfl
theorem wd5_165 : Cond.code yX12_eliminateIn cX12_eliminateIn 7 (Option.some Jvm.ClassFile.FieldType.int) ∈ TB := tb5 (List.mem_of_getElem? (i := 165) rfl) rfl
theorem wd5_166 : Cond.methodLink RL 67 yX12_substitute ∈ TB := tb5 (List.mem_of_getElem? (i := 166) rfl) rfl
theorem wd5_167 : Cond.instanceMethod yX12_substitute ∈ TB := tb5 (List.mem_of_getElem? (i := 167) rfl) rfl
theorem wd5_168 : Cond.selects RX12 yX12_substitute yX12_substitute ∈ TB := tb5 (List.mem_of_getElem? (i := 168) rfl) rfl
theorem wd5_169 : Cond.code yX12_substitute cX12_substitute 9 (Option.some Jvm.ClassFile.FieldType.int) ∈ TB := tb5 (List.mem_of_getElem? (i := 169) rfl) rfl
theorem wd5_170 : Cond.methodLink RL 71 yX12_undo ∈ TB := tb5 (List.mem_of_getElem? (i := 170) rfl) rfl
theorem wd5_171 : Cond.instanceMethod yX12_undo ∈ TB := tb5 (List.mem_of_getElem? (i := 171) rfl) rfl
theorem wd5_172 : Cond.selects RX12 yX12_undo yX12_undo ∈ TB := tb5 (List.mem_of_getElem? (i := 172) rfl) rfl
theorem wd5_173 : Cond.code yX12_undo cX12_undo 2 (Option.some Jvm.ClassFile.FieldType.int) ∈ TB := tb5 (List.mem_of_getElem? (i := 173) rfl) rfl
theorem wd5_174 : Cond.methodLink RL 76 yX12_satisfies ∈ TB := tb5 (List.mem_of_getElem? (i := 174) rfl) rfl
theorem wd5_175 : Cond.instanceMethod yX12_satisfies ∈ TB := tb5 (List.mem_of_getElem? (i := 175) rfl) rfl
theorem wd5_176 : Cond.selects RX12 yX12_satisfies yX12_satisfies ∈ TB := tb5 (List.mem_of_getElem? (i := 176) rfl) rfl
theorem wd5_177 : Cond.code yX12_satisfies cX12_satisfies 5 (Option.some Jvm.ClassFile.FieldType.int) ∈ TB := tb5 (List.mem_of_getElem? (i := 177) rfl) rfl
theorem wd5_178 : Cond.methodLink RX12 172 yX12_isSolution ∈ TB := tb5 (List.mem_of_getElem? (i := 178) rfl) rfl
theorem wd5_180 : Cond.instanceMethod yX12_isSolution ∈ TB := tb5 (List.mem_of_getElem? (i := 180) rfl) rfl
theorem wd5_181 : Cond.code yX12_isSolution cX12_isSolution 10 (Option.some Jvm.ClassFile.FieldType.boolean) ∈ TB := tb5 (List.mem_of_getElem? (i := 181) rfl) rfl
theorem wd5_182 : Cond.methodLink RX12 166 yX12_lengthOf ∈ TB := tb5 (List.mem_of_getElem? (i := 182) rfl) rfl
theorem wd5_183 : Cond.static yX12_lengthOf ∈ TB := tb5 (List.mem_of_getElem? (i := 183) rfl) rfl
theorem wd5_184 : Cond.code yX12_lengthOf cX12_lengthOf 2 (Option.some Jvm.ClassFile.FieldType.int) ∈ TB := tb5 (List.mem_of_getElem? (i := 184) rfl) rfl
theorem wd5_185 : Cond.methodLink RX12 169 yX12_holds ∈ TB := tb5 (List.mem_of_getElem? (i := 185) rfl) rfl
theorem wd5_187 : Cond.instanceMethod yX12_holds ∈ TB := tb5 (List.mem_of_getElem? (i := 187) rfl) rfl
theorem wd5_188 : Cond.code yX12_holds cX12_holds 8 (Option.some Jvm.ClassFile.FieldType.boolean) ∈ TB := tb5 (List.mem_of_getElem? (i := 188) rfl) rfl
theorem wd5_189 : Cond.methodLink RL 80 yX12_countSolutions ∈ TB := tb5 (List.mem_of_getElem? (i := 189) rfl) rfl
theorem wd5_190 : Cond.instanceMethod yX12_countSolutions ∈ TB := tb5 (List.mem_of_getElem? (i := 190) rfl) rfl
theorem wd5_191 : Cond.selects RX12 yX12_countSolutions yX12_countSolutions ∈ TB := tb5 (List.mem_of_getElem? (i := 191) rfl) rfl
theorem wd5_192 : Cond.code yX12_countSolutions cX12_countSolutions 2 (Option.some Jvm.ClassFile.FieldType.int) ∈ TB := tb5 (List.mem_of_getElem? (i := 192) rfl) rfl
theorem wd5_193 : Cond.methodLink RX12 189 yX12_lookThrough ∈ TB := tb5 (List.mem_of_getElem? (i := 193) rfl) rfl
theorem wd5_195 : Cond.instanceMethod yX12_lookThrough ∈ TB := tb5 (List.mem_of_getElem? (i := 195) rfl) rfl
theorem wd5_196 : Cond.code yX12_lookThrough cX12_lookThrough 6 Option.none ∈ TB := tb5 (List.mem_of_getElem? (i := 196) rfl) rfl
theorem wd5_197 : Cond.methodLink RX12 186 yX12_goOn ∈ TB := tb5 (List.mem_of_getElem? (i := 197) rfl) rfl
theorem wd5_199 : Cond.instanceMethod yX12_goOn ∈ TB := tb5 (List.mem_of_getElem? (i := 199) rfl) rfl
theorem wd5_200 : Cond.code yX12_goOn cX12_goOn 4 (Option.some Jvm.ClassFile.FieldType.boolean) ∈ TB := tb5 (List.mem_of_getElem? (i := 200) rfl) rfl
theorem wd5_201 : Cond.methodLink RX12 176 yX12_isUsed ∈ TB := tb5 (List.mem_of_getElem? (i := 201) rfl) rfl
theorem wd5_202 : Cond.static yX12_isUsed ∈ TB := tb5 (List.mem_of_getElem? (i := 202) rfl) rfl
theorem wd5_203 : Cond.code yX12_isUsed cX12_isUsed 2 (Option.some Jvm.ClassFile.FieldType.boolean) ∈ TB := tb5 (List.mem_of_getElem? (i := 203) rfl) rfl
theorem wd5_204 : Cond.methodLink RL 84 yX12_firstSolution ∈ TB := tb5 (List.mem_of_getElem? (i := 204) rfl) rfl
theorem wd5_205 : Cond.instanceMethod yX12_firstSolution ∈ TB := tb5 (List.mem_of_getElem? (i := 205) rfl) rfl
theorem wd5_206 : Cond.selects RX12 yX12_firstSolution yX12_firstSolution ∈ TB := tb5 (List.mem_of_getElem? (i := 206) rfl) rfl
theorem wd5_207 : Cond.code yX12_firstSolution cX12_firstSolution 3 (Option.some Jvm.ClassFile.FieldType.int) ∈ TB := tb5 (List.mem_of_getElem? (i := 207) rfl) rfl
theorem wd5_208 : Cond.methodLink RL 88 yX12_leastTotalLength ∈ TB := tb5 (List.mem_of_getElem? (i := 208) rfl) rfl
theorem wd5_209 : Cond.instanceMethod yX12_leastTotalLength ∈ TB := tb5 (List.mem_of_getElem? (i := 209) rfl) rfl
theorem wd5_210 : Cond.selects RX12 yX12_leastTotalLength yX12_leastTotalLength ∈ TB := tb5 (List.mem_of_getElem? (i := 210) rfl) rfl
theorem wd5_211 : Cond.code yX12_leastTotalLength cX12_leastTotalLength 2 (Option.some Jvm.ClassFile.FieldType.int) ∈ TB := tb5 (List.mem_of_getElem? (i := 211) rfl) rfl
theorem wd5_212 : Cond.methodLink RL 92 yX12_countLengths ∈ TB := tb5 (List.mem_of_getElem? (i := 212) rfl) rfl
theorem wd5_213 : Cond.instanceMethod yX12_countLengths ∈ TB := tb5 (List.mem_of_getElem? (i := 213) rfl) rfl
theorem wd5_214 : Cond.selects RX12 yX12_countLengths yX12_countLengths ∈ TB := tb5 (List.mem_of_getElem? (i := 214) rfl) rfl
theorem wd5_215 : Cond.code yX12_countLengths cX12_countLengths 8 (Option.some Jvm.ClassFile.FieldType.int) ∈ TB := tb5 (List.mem_of_getElem? (i := 215) rfl) rfl
theorem wd5_216 : Cond.constantLong RX12 192 9 ∈ TB := tb5 (List.mem_of_getElem? (i := 216) rfl) rfl
theorem wd5_217 : Cond.methodLink RL 96 yX12_refutedByCounting ∈ TB := tb5 (List.mem_of_getElem? (i := 217) rfl) rfl
theorem wd5_218 : Cond.instanceMethod yX12_refutedByCounting ∈ TB := tb5 (List.mem_of_getElem? (i := 218) rfl) rfl
theorem wd5_219 : Cond.selects RX12 yX12_refutedByCounting yX12_refutedByCounting ∈ TB := tb5 (List.mem_of_getElem? (i := 219) rfl) rfl
theorem wd5_220 : Cond.code yX12_refutedByCounting cX12_refutedByCounting 3 (Option.some Jvm.ClassFile.FieldType.int) ∈ TB := tb5 (List.mem_of_getElem? (i := 220) rfl) rfl
theorem wd5_221 : Cond.methodLink RL 100 yX12_decide ∈ TB := tb5 (List.mem_of_getElem? (i := 221) rfl) rfl
theorem wd5_222 : Cond.instanceMethod yX12_decide ∈ TB := tb5 (List.mem_of_getElem? (i := 222) rfl) rfl
theorem wd5_223 : Cond.selects RX12 yX12_decide yX12_decide ∈ TB := tb5 (List.mem_of_getElem? (i := 223) rfl) rfl
theorem wd5_224 : Cond.code yX12_decide cX12_decide 1 (Option.some Jvm.ClassFile.FieldType.int) ∈ TB := tb5 (List.mem_of_getElem? (i := 224) rfl) rfl
theorem wd5_225 : Cond.methodLink RX12 227 yX12_search ∈ TB := tb5 (List.mem_of_getElem? (i := 225) rfl) rfl
theorem wd5_227 : Cond.instanceMethod yX12_search ∈ TB := tb5 (List.mem_of_getElem? (i := 227) rfl) rfl
theorem wd5_228 : Cond.code yX12_search cX12_search 4 (Option.some Jvm.ClassFile.FieldType.int) ∈ TB := tb5 (List.mem_of_getElem? (i := 228) rfl) rfl
theorem wd5_229 : Cond.methodLink RX12 216 yX12_layNode ∈ TB := tb5 (List.mem_of_getElem? (i := 229) rfl) rfl
theorem wd5_231 : Cond.instanceMethod yX12_layNode ∈ TB := tb5 (List.mem_of_getElem? (i := 231) rfl) rfl
theorem wd5_232 : Cond.code yX12_layNode cX12_layNode 4 Option.none ∈ TB := tb5 (List.mem_of_getElem? (i := 232) rfl) rfl
theorem wd5_233 : Cond.methodLink RX12 220 yX12_applies ∈ TB := tb5 (List.mem_of_getElem? (i := 233) rfl) rfl
theorem wd5_235 : Cond.instanceMethod yX12_applies ∈ TB := tb5 (List.mem_of_getElem? (i := 235) rfl) rfl
theorem wd5_236 : Cond.code yX12_applies cX12_applies 6 (Option.some Jvm.ClassFile.FieldType.boolean) ∈ TB := tb5 (List.mem_of_getElem? (i := 236) rfl) rfl
theorem wd5_237 : Cond.methodLink RX12 223 yX12_addChild ∈ TB := tb5 (List.mem_of_getElem? (i := 237) rfl) rfl
theorem wd5_239 : Cond.instanceMethod yX12_addChild ∈ TB := tb5 (List.mem_of_getElem? (i := 239) rfl) rfl
theorem wd6_0 : Cond.code yX12_addChild cX12_addChild 4 Option.none ∈ TB := tb6 (List.mem_of_getElem? (i := 0) rfl) rfl
theorem wd6_1 : Cond.methodLink RX12 203 yX12_layChild ∈ TB := tb6 (List.mem_of_getElem? (i := 1) rfl) rfl
theorem wd6_3 : Cond.instanceMethod yX12_layChild ∈ TB := tb6 (List.mem_of_getElem? (i := 3) rfl) rfl
theorem wd6_4 : Cond.code yX12_layChild cX12_layChild 15 Option.none ∈ TB := tb6 (List.mem_of_getElem? (i := 4) rfl) rfl
theorem wd6_5 : Cond.constantLong RX12 198 11 ∈ TB := tb6 (List.mem_of_getElem? (i := 5) rfl) rfl
theorem wd6_6 : Cond.methodLink RX12 210 yX12_sameNode ∈ TB := tb6 (List.mem_of_getElem? (i := 6) rfl) rfl
theorem wd6_8 : Cond.instanceMethod yX12_sameNode ∈ TB := tb6 (List.mem_of_getElem? (i := 8) rfl) rfl
theorem wd6_9 : Cond.code yX12_sameNode cX12_sameNode 4 (Option.some Jvm.ClassFile.FieldType.int) ∈ TB := tb6 (List.mem_of_getElem? (i := 9) rfl) rfl
theorem wd6_10 : Cond.methodLink RL 104 yX12_nodeCount ∈ TB := tb6 (List.mem_of_getElem? (i := 10) rfl) rfl
theorem wd6_11 : Cond.instanceMethod yX12_nodeCount ∈ TB := tb6 (List.mem_of_getElem? (i := 11) rfl) rfl
theorem wd6_12 : Cond.selects RX12 yX12_nodeCount yX12_nodeCount ∈ TB := tb6 (List.mem_of_getElem? (i := 12) rfl) rfl
theorem wd6_13 : Cond.code yX12_nodeCount cX12_nodeCount 2 (Option.some Jvm.ClassFile.FieldType.int) ∈ TB := tb6 (List.mem_of_getElem? (i := 13) rfl) rfl
theorem wd6_14 : Cond.methodLink RL 108 yX12_proofLength ∈ TB := tb6 (List.mem_of_getElem? (i := 14) rfl) rfl
theorem wd6_15 : Cond.instanceMethod yX12_proofLength ∈ TB := tb6 (List.mem_of_getElem? (i := 15) rfl) rfl
theorem wd6_16 : Cond.selects RX12 yX12_proofLength yX12_proofLength ∈ TB := tb6 (List.mem_of_getElem? (i := 16) rfl) rfl
theorem wd6_17 : Cond.code yX12_proofLength cX12_proofLength 1 (Option.some Jvm.ClassFile.FieldType.int) ∈ TB := tb6 (List.mem_of_getElem? (i := 17) rfl) rfl
theorem wd6_18 : Cond.methodLink RX12 233 yX12_layProof ∈ TB := tb6 (List.mem_of_getElem? (i := 18) rfl) rfl
theorem wd6_20 : Cond.instanceMethod yX12_layProof ∈ TB := tb6 (List.mem_of_getElem? (i := 20) rfl) rfl
theorem wd6_21 : Cond.code yX12_layProof cX12_layProof 3 (Option.some Jvm.ClassFile.FieldType.boolean) ∈ TB := tb6 (List.mem_of_getElem? (i := 21) rfl) rfl
theorem wd6_22 : Cond.methodLink RL 112 yX12_proofRule ∈ TB := tb6 (List.mem_of_getElem? (i := 22) rfl) rfl
theorem wd6_23 : Cond.instanceMethod yX12_proofRule ∈ TB := tb6 (List.mem_of_getElem? (i := 23) rfl) rfl
theorem wd6_24 : Cond.selects RX12 yX12_proofRule yX12_proofRule ∈ TB := tb6 (List.mem_of_getElem? (i := 24) rfl) rfl
theorem wd6_25 : Cond.code yX12_proofRule cX12_proofRule 2 (Option.some Jvm.ClassFile.FieldType.int) ∈ TB := tb6 (List.mem_of_getElem? (i := 25) rfl) rfl
theorem wd6_26 : Cond.methodLink RL 116 yX12_witnessLength ∈ TB := tb6 (List.mem_of_getElem? (i := 26) rfl) rfl
theorem wd6_27 : Cond.instanceMethod yX12_witnessLength ∈ TB := tb6 (List.mem_of_getElem? (i := 27) rfl) rfl
theorem wd6_28 : Cond.selects RX12 yX12_witnessLength yX12_witnessLength ∈ TB := tb6 (List.mem_of_getElem? (i := 28) rfl) rfl
theorem wd6_29 : Cond.code yX12_witnessLength cX12_witnessLength 2 (Option.some Jvm.ClassFile.FieldType.int) ∈ TB := tb6 (List.mem_of_getElem? (i := 29) rfl) rfl
theorem wd6_30 : Cond.methodLink RX12 243 yX12_layWitness ∈ TB := tb6 (List.mem_of_getElem? (i := 30) rfl) rfl
theorem wd6_32 : Cond.instanceMethod yX12_layWitness ∈ TB := tb6 (List.mem_of_getElem? (i := 32) rfl) rfl
theorem wd6_33 : Cond.code yX12_layWitness cX12_layWitness 5 (Option.some Jvm.ClassFile.FieldType.boolean) ∈ TB := tb6 (List.mem_of_getElem? (i := 33) rfl) rfl
theorem wd6_34 : Cond.methodLink RX12 240 yX12_putAhead ∈ TB := tb6 (List.mem_of_getElem? (i := 34) rfl) rfl
theorem wd6_36 : Cond.instanceMethod yX12_putAhead ∈ TB := tb6 (List.mem_of_getElem? (i := 36) rfl) rfl
theorem wd6_37 : Cond.code yX12_putAhead cX12_putAhead 5 Option.none ∈ TB := tb6 (List.mem_of_getElem? (i := 37) rfl) rfl
theorem wd6_38 : Cond.methodLink RL 120 yX12_witnessLetter ∈ TB := tb6 (List.mem_of_getElem? (i := 38) rfl) rfl
theorem wd6_39 : Cond.instanceMethod yX12_witnessLetter ∈ TB := tb6 (List.mem_of_getElem? (i := 39) rfl) rfl
theorem wd6_40 : Cond.selects RX12 yX12_witnessLetter yX12_witnessLetter ∈ TB := tb6 (List.mem_of_getElem? (i := 40) rfl) rfl
theorem wd6_41 : Cond.code yX12_witnessLetter cX12_witnessLetter 3 (Option.some Jvm.ClassFile.FieldType.int) ∈ TB := tb6 (List.mem_of_getElem? (i := 41) rfl) rfl
theorem wd6_42 : Cond.methodLink RL 127 yX12_runScript ∈ TB := tb6 (List.mem_of_getElem? (i := 42) rfl) rfl
theorem wd6_43 : Cond.instanceMethod yX12_runScript ∈ TB := tb6 (List.mem_of_getElem? (i := 43) rfl) rfl
theorem wd6_44 : Cond.selects RX12 yX12_runScript yX12_runScript ∈ TB := tb6 (List.mem_of_getElem? (i := 44) rfl) rfl
theorem wd6_45 : Cond.code yX12_runScript cX12_runScript 6 (Option.some Jvm.ClassFile.FieldType.int) ∈ TB := tb6 (List.mem_of_getElem? (i := 45) rfl) rfl
theorem wd6_46 : Cond.constantLong RX12 248 4 ∈ TB := tb6 (List.mem_of_getElem? (i := 46) rfl) rfl
theorem wd6_47 : Cond.methodLink RX12 250 yX12_thousands ∈ TB := tb6 (List.mem_of_getElem? (i := 47) rfl) rfl
theorem wd6_48 : Cond.static yX12_thousands ∈ TB := tb6 (List.mem_of_getElem? (i := 48) rfl) rfl
theorem wd6_49 : Cond.code yX12_thousands cX12_thousands 4 (Option.some Jvm.ClassFile.FieldType.long) ∈ TB := tb6 (List.mem_of_getElem? (i := 49) rfl) rfl
theorem wd6_50 : Cond.constantLong RX12 246 1000 ∈ TB := tb6 (List.mem_of_getElem? (i := 50) rfl) rfl
theorem wd6_51 : Cond.methodLink RX12 254 yX12_command ∈ TB := tb6 (List.mem_of_getElem? (i := 51) rfl) rfl
theorem wd6_53 : Cond.instanceMethod yX12_command ∈ TB := tb6 (List.mem_of_getElem? (i := 53) rfl) rfl
theorem wd6_54 : Cond.code yX12_command cX12_command 5 (Option.some Jvm.ClassFile.FieldType.boolean) ∈ TB := tb6 (List.mem_of_getElem? (i := 54) rfl) rfl
theorem wd6_55 : Cond.methodLink RL 132 yX12_randomChecks ∈ TB := tb6 (List.mem_of_getElem? (i := 55) rfl) rfl
theorem wd6_56 : Cond.instanceMethod yX12_randomChecks ∈ TB := tb6 (List.mem_of_getElem? (i := 56) rfl) rfl
theorem wd6_57 : Cond.selects RX12 yX12_randomChecks yX12_randomChecks ∈ TB := tb6 (List.mem_of_getElem? (i := 57) rfl) rfl
theorem wd6_58 : Cond.code yX12_randomChecks cX12_randomChecks 10 (Option.some Jvm.ClassFile.FieldType.int) ∈ TB := tb6 (List.mem_of_getElem? (i := 58) rfl) rfl
theorem wd6_59 : Cond.constantLong RX12 258 200 ∈ TB := tb6 (List.mem_of_getElem? (i := 59) rfl) rfl
theorem wd6_60 : Cond.constantLong RX12 260 6364136223846793005 ∈ TB := tb6 (List.mem_of_getElem? (i := 60) rfl) rfl
theorem wd6_61 : Cond.constantLong RX12 262 1442695040888963407 ∈ TB := tb6 (List.mem_of_getElem? (i := 61) rfl) rfl
theorem wd6_62 : Cond.methodLink RL 136 yX12_save ∈ TB := tb6 (List.mem_of_getElem? (i := 62) rfl) rfl
theorem wd6_63 : Cond.instanceMethod yX12_save ∈ TB := tb6 (List.mem_of_getElem? (i := 63) rfl) rfl
theorem wd6_64 : Cond.selects RX12 yX12_save yX12_save ∈ TB := tb6 (List.mem_of_getElem? (i := 64) rfl) rfl
theorem wd6_65 : Cond.code yX12_save cX12_save 3 (Option.some Jvm.ClassFile.FieldType.int) ∈ TB := tb6 (List.mem_of_getElem? (i := 65) rfl) rfl
theorem wd6_66 : Cond.methodLink RL 140 yX12_restore ∈ TB := tb6 (List.mem_of_getElem? (i := 66) rfl) rfl
theorem wd6_67 : Cond.instanceMethod yX12_restore ∈ TB := tb6 (List.mem_of_getElem? (i := 67) rfl) rfl
theorem wd6_68 : Cond.selects RX12 yX12_restore yX12_restore ∈ TB := tb6 (List.mem_of_getElem? (i := 68) rfl) rfl
theorem wd6_69 : Cond.code yX12_restore cX12_restore 3 (Option.some Jvm.ClassFile.FieldType.int) ∈ TB := tb6 (List.mem_of_getElem? (i := 69) rfl) rfl
theorem wd6_70 : Cond.constantLong RL 121 4294967295 ∈ TB := tb6 (List.mem_of_getElem? (i := 70) rfl) rfl
theorem wd6_71 : Cond.fieldLink RJ0 15 "java/lang/String" "coder" "B" ∈ TB := tb6 (List.mem_of_getElem? (i := 71) rfl) rfl
theorem wd6_72 : Cond.fieldLink RJ0 9 "java/lang/String" "value" "[B" ∈ TB := tb6 (List.mem_of_getElem? (i := 72) rfl) rfl
theorem ws_0 : Cond.selects RX3 yX3_endOfSide yX3_endOfSide ∈ TB := tb_sel (List.mem_of_getElem? (i := 0) rfl) rfl
theorem ws_1 : Cond.selects RX3 yX3_at yX3_at ∈ TB := tb_sel (List.mem_of_getElem? (i := 1) rfl) rfl
theorem ws_2 : Cond.selects RX4 yX4_forgetOldest yX4_forgetOldest ∈ TB := tb_sel (List.mem_of_getElem? (i := 2) rfl) rfl
theorem ws_3 : Cond.selects RX2 yX2_cancelHeads yX2_cancelHeads ∈ TB := tb_sel (List.mem_of_getElem? (i := 3) rfl) rfl
theorem ws_4 : Cond.selects RX11 yX11_holdsFor yX11_holdsFor ∈ TB := tb_sel (List.mem_of_getElem? (i := 4) rfl) rfl
theorem ws_5 : Cond.selects RX0 yX0_spelled yX0_spelled ∈ TB := tb_sel (List.mem_of_getElem? (i := 5) rfl) rfl
theorem ws_6 : Cond.selects RX6 yX6_possibleUpTo yX6_possibleUpTo ∈ TB := tb_sel (List.mem_of_getElem? (i := 6) rfl) rfl
theorem ws_7 : Cond.selects RX1 yX1_chooseWord yX1_chooseWord ∈ TB := tb_sel (List.mem_of_getElem? (i := 7) rfl) rfl
theorem ws_8 : Cond.selects RX1 yX1_record yX1_record ∈ TB := tb_sel (List.mem_of_getElem? (i := 8) rfl) rfl
theorem ws_9 : Cond.selects RX1 yX1_chooseLetters yX1_chooseLetters ∈ TB := tb_sel (List.mem_of_getElem? (i := 9) rfl) rfl
theorem ws_10 : Cond.selects RX6 yX6_waysFrom yX6_waysFrom ∈ TB := tb_sel (List.mem_of_getElem? (i := 10) rfl) rfl
theorem ws_11 : Cond.selects RX7 yX7_addNode yX7_addNode ∈ TB := tb_sel (List.mem_of_getElem? (i := 11) rfl) rfl
theorem ws_12 : Cond.selects RX7 yX7_isKnown yX7_isKnown ∈ TB := tb_sel (List.mem_of_getElem? (i := 12) rfl) rfl
theorem ws_13 : Cond.selects RX7 yX7_isNode yX7_isNode ∈ TB := tb_sel (List.mem_of_getElem? (i := 13) rfl) rfl
theorem ws_14 : Cond.selects RX7 yX7_addChildren yX7_addChildren ∈ TB := tb_sel (List.mem_of_getElem? (i := 14) rfl) rfl
theorem ws_15 : Cond.selects RX7 yX7_addWithout yX7_addWithout ∈ TB := tb_sel (List.mem_of_getElem? (i := 15) rfl) rfl
theorem ws_16 : Cond.selects RX7 yX7_addLonger yX7_addLonger ∈ TB := tb_sel (List.mem_of_getElem? (i := 16) rfl) rfl
theorem ws_17 : Cond.selects RX7 yX7_takeRuleBack yX7_takeRuleBack ∈ TB := tb_sel (List.mem_of_getElem? (i := 17) rfl) rfl
theorem ws_18 : Cond.selects RX8 yX8_removes yX8_removes ∈ TB := tb_sel (List.mem_of_getElem? (i := 18) rfl) rfl
theorem ws_19 : Cond.selects RX8 yX8_rewrites yX8_rewrites ∈ TB := tb_sel (List.mem_of_getElem? (i := 19) rfl) rfl
theorem ws_20 : Cond.selects RX12 yX12_readText yX12_readText ∈ TB := tb_sel (List.mem_of_getElem? (i := 20) rfl) rfl
theorem ws_21 : Cond.selects RX12 yX12_takeOfConstraint yX12_takeOfConstraint ∈ TB := tb_sel (List.mem_of_getElem? (i := 21) rfl) rfl
theorem ws_22 : Cond.selects RX12 yX12_note yX12_note ∈ TB := tb_sel (List.mem_of_getElem? (i := 22) rfl) rfl
theorem ws_23 : Cond.selects RX12 yX12_isSolution yX12_isSolution ∈ TB := tb_sel (List.mem_of_getElem? (i := 23) rfl) rfl
theorem ws_24 : Cond.selects RX12 yX12_holds yX12_holds ∈ TB := tb_sel (List.mem_of_getElem? (i := 24) rfl) rfl
theorem ws_25 : Cond.selects RX12 yX12_lookThrough yX12_lookThrough ∈ TB := tb_sel (List.mem_of_getElem? (i := 25) rfl) rfl
theorem ws_26 : Cond.selects RX12 yX12_goOn yX12_goOn ∈ TB := tb_sel (List.mem_of_getElem? (i := 26) rfl) rfl
theorem ws_27 : Cond.selects RX12 yX12_search yX12_search ∈ TB := tb_sel (List.mem_of_getElem? (i := 27) rfl) rfl
theorem ws_28 : Cond.selects RX12 yX12_layNode yX12_layNode ∈ TB := tb_sel (List.mem_of_getElem? (i := 28) rfl) rfl
theorem ws_29 : Cond.selects RX12 yX12_applies yX12_applies ∈ TB := tb_sel (List.mem_of_getElem? (i := 29) rfl) rfl
theorem ws_30 : Cond.selects RX12 yX12_addChild yX12_addChild ∈ TB := tb_sel (List.mem_of_getElem? (i := 30) rfl) rfl
theorem ws_31 : Cond.selects RX12 yX12_layChild yX12_layChild ∈ TB := tb_sel (List.mem_of_getElem? (i := 31) rfl) rfl
theorem ws_32 : Cond.selects RX12 yX12_sameNode yX12_sameNode ∈ TB := tb_sel (List.mem_of_getElem? (i := 32) rfl) rfl
theorem ws_33 : Cond.selects RX12 yX12_layProof yX12_layProof ∈ TB := tb_sel (List.mem_of_getElem? (i := 33) rfl) rfl
theorem ws_34 : Cond.selects RX12 yX12_layWitness yX12_layWitness ∈ TB := tb_sel (List.mem_of_getElem? (i := 34) rfl) rfl
theorem ws_35 : Cond.selects RX12 yX12_putAhead yX12_putAhead ∈ TB := tb_sel (List.mem_of_getElem? (i := 35) rfl) rfl
theorem ws_36 : Cond.selects RX12 yX12_command yX12_command ∈ TB := tb_sel (List.mem_of_getElem? (i := 36) rfl) rfl

theorem q1_0 : Cond.initialized RL ∈ tbG := gq1 (List.mem_of_getElem? (i := 0) (by decide +kernel)) (by decide +kernel)
theorem q1_1 : Cond.initialized RX6 ∈ tbG := gq1 (List.mem_of_getElem? (i := 1) (by decide +kernel)) (by decide +kernel)
theorem q1_2 : Cond.initialized RX5 ∈ tbG := gq1 (List.mem_of_getElem? (i := 2) (by decide +kernel)) (by decide +kernel)
theorem q1_3 : Cond.initialized RX4 ∈ tbG := gq1 (List.mem_of_getElem? (i := 3) (by decide +kernel)) (by decide +kernel)
theorem q1_4 : Cond.initialized RX1 ∈ tbG := gq1 (List.mem_of_getElem? (i := 4) (by decide +kernel)) (by decide +kernel)
theorem q1_5 : Cond.initialized RX3 ∈ tbG := gq1 (List.mem_of_getElem? (i := 5) (by decide +kernel)) (by decide +kernel)
theorem q1_6 : Cond.initialized RX0 ∈ tbG := gq1 (List.mem_of_getElem? (i := 6) (by decide +kernel)) (by decide +kernel)
theorem q1_7 : Cond.initialized RX2 ∈ tbG := gq1 (List.mem_of_getElem? (i := 7) (by decide +kernel)) (by decide +kernel)
theorem q1_8 : Cond.initialized RX7 ∈ tbG := gq1 (List.mem_of_getElem? (i := 8) (by decide +kernel)) (by decide +kernel)
theorem q1_9 : Cond.initialized RJ7 ∈ tbG := gq1 (List.mem_of_getElem? (i := 9) (by decide +kernel)) (by decide +kernel)
theorem q1_10 : Cond.initialized RJ10 ∈ tbG := gq1 (List.mem_of_getElem? (i := 10) (by decide +kernel)) (by decide +kernel)
theorem q1_11 : Cond.initialized RJ9 ∈ tbG := gq1 (List.mem_of_getElem? (i := 11) (by decide +kernel)) (by decide +kernel)
theorem q1_12 : Cond.initialized RJ6 ∈ tbG := gq1 (List.mem_of_getElem? (i := 12) (by decide +kernel)) (by decide +kernel)
theorem q1_13 : Cond.classLink RL 7 RX6 ∈ tbG := gq1 (List.mem_of_getElem? (i := 13) (by decide +kernel)) (by decide +kernel)
theorem q1_14 : Cond.instantiable RX6 10 ∈ tbG := gq1 (List.mem_of_getElem? (i := 14) (by decide +kernel)) (by decide +kernel)
theorem q1_15 : Cond.methodLink RL 9 yX6_init ∈ tbG := gq1 (List.mem_of_getElem? (i := 15) (by decide +kernel)) (by decide +kernel)
theorem q1_16 : Cond.instanceMethod yX6_init ∈ tbG := gq1 (List.mem_of_getElem? (i := 16) (by decide +kernel)) (by decide +kernel)
theorem q1_17 : Cond.code yX6_init cX6_init 2 none ∈ tbG := gq1 (List.mem_of_getElem? (i := 17) rfl) rfl
theorem q1_18 : Cond.methodLink RX6 1 objectInit ∈ tbG := gq1 (List.mem_of_getElem? (i := 18) (by decide +kernel)) (by decide +kernel)
theorem q1_19 : Cond.instanceMethod objectInit ∈ tbG := gq1 (List.mem_of_getElem? (i := 19) (by decide +kernel)) (by decide +kernel)
theorem q1_20 : Cond.code objectInit object_method_1_code 1 none ∈ tbG := gq1 (List.mem_of_getElem? (i := 20) rfl) rfl
theorem q1_21 : Cond.classLink RX6 9 RX2 ∈ tbG := gq1 (List.mem_of_getElem? (i := 21) (by decide +kernel)) (by decide +kernel)
theorem q1_23 : Cond.classLink RX6 15 RX5 ∈ tbG := gq1 (List.mem_of_getElem? (i := 23) (by decide +kernel)) (by decide +kernel)
theorem q1_25 : Cond.instantiable RX5 11 ∈ tbG := gq1 (List.mem_of_getElem? (i := 25) (by decide +kernel)) (by decide +kernel)
theorem q1_26 : Cond.methodLink RX6 21 yX5_init ∈ tbG := gq1 (List.mem_of_getElem? (i := 26) (by decide +kernel)) (by decide +kernel)
theorem q1_27 : Cond.instanceMethod yX5_init ∈ tbG := gq1 (List.mem_of_getElem? (i := 27) (by decide +kernel)) (by decide +kernel)
theorem q1_28 : Cond.code yX5_init cX5_init 1 none ∈ tbG := gq1 (List.mem_of_getElem? (i := 28) rfl) rfl
theorem q1_29 : Cond.methodLink RX5 3 objectInit ∈ tbG := gq1 (List.mem_of_getElem? (i := 29) (by decide +kernel)) (by decide +kernel)
theorem q1_30 : Cond.fieldLink RX5 27 "MusicBox$Works" "columns" "I" ∈ tbG := gq1 (List.mem_of_getElem? (i := 30) (by decide +kernel)) (by decide +kernel)
theorem q1_31 : Cond.fieldLink RX4 67 "MusicBox$Works" "columns" "I" ∈ tbG := gq1 (List.mem_of_getElem? (i := 31) (by decide +kernel)) (by decide +kernel)
theorem q1_32 : Cond.fieldLink RX3 65 "MusicBox$Works" "columns" "I" ∈ tbG := gq1 (List.mem_of_getElem? (i := 32) (by decide +kernel)) (by decide +kernel)
theorem q1_33 : Cond.fieldLink RX6 205 "MusicBox$Works" "columns" "I" ∈ tbG := gq1 (List.mem_of_getElem? (i := 33) (by decide +kernel)) (by decide +kernel)
theorem q1_34 : Cond.fieldLink RX5 31 "MusicBox$Works" "teeth" "I" ∈ tbG := gq1 (List.mem_of_getElem? (i := 34) (by decide +kernel)) (by decide +kernel)
theorem q1_35 : Cond.fieldLink RX4 80 "MusicBox$Works" "teeth" "I" ∈ tbG := gq1 (List.mem_of_getElem? (i := 35) (by decide +kernel)) (by decide +kernel)
theorem q1_36 : Cond.fieldLink RX3 68 "MusicBox$Works" "teeth" "I" ∈ tbG := gq1 (List.mem_of_getElem? (i := 36) (by decide +kernel)) (by decide +kernel)
theorem q1_37 : Cond.fieldLink RX6 140 "MusicBox$Works" "teeth" "I" ∈ tbG := gq1 (List.mem_of_getElem? (i := 37) (by decide +kernel)) (by decide +kernel)
theorem q1_38 : Cond.fieldLink RX5 34 "MusicBox$Works" "spring" "I" ∈ tbG := gq1 (List.mem_of_getElem? (i := 38) (by decide +kernel)) (by decide +kernel)
theorem q1_39 : Cond.fieldLink RX4 51 "MusicBox$Works" "spring" "I" ∈ tbG := gq1 (List.mem_of_getElem? (i := 39) (by decide +kernel)) (by decide +kernel)
theorem q1_40 : Cond.fieldLink RX3 58 "MusicBox$Works" "spring" "I" ∈ tbG := gq1 (List.mem_of_getElem? (i := 40) (by decide +kernel)) (by decide +kernel)
theorem q1_41 : Cond.fieldLink RX6 169 "MusicBox$Works" "spring" "I" ∈ tbG := gq1 (List.mem_of_getElem? (i := 41) (by decide +kernel)) (by decide +kernel)
theorem q1_42 : Cond.fieldLink RX5 37 "MusicBox$Works" "column" "I" ∈ tbG := gq1 (List.mem_of_getElem? (i := 42) (by decide +kernel)) (by decide +kernel)
theorem q1_43 : Cond.fieldLink RX3 54 "MusicBox$Works" "column" "I" ∈ tbG := gq1 (List.mem_of_getElem? (i := 43) (by decide +kernel)) (by decide +kernel)
theorem q1_44 : Cond.fieldLink RX4 54 "MusicBox$Works" "column" "I" ∈ tbG := gq1 (List.mem_of_getElem? (i := 44) (by decide +kernel)) (by decide +kernel)
theorem q1_45 : Cond.fieldLink RX6 184 "MusicBox$Works" "column" "I" ∈ tbG := gq1 (List.mem_of_getElem? (i := 45) (by decide +kernel)) (by decide +kernel)
theorem q1_46 : Cond.fieldLink RX5 40 "MusicBox$Works" "tick" "I" ∈ tbG := gq1 (List.mem_of_getElem? (i := 46) (by decide +kernel)) (by decide +kernel)
theorem q1_47 : Cond.fieldLink RX6 152 "MusicBox$Works" "tick" "I" ∈ tbG := gq1 (List.mem_of_getElem? (i := 47) (by decide +kernel)) (by decide +kernel)
theorem q1_48 : Cond.fieldLink RX5 43 "MusicBox$Works" "broken" "I" ∈ tbG := gq1 (List.mem_of_getElem? (i := 48) (by decide +kernel)) (by decide +kernel)
theorem q1_49 : Cond.fieldLink RX6 211 "MusicBox$Works" "broken" "I" ∈ tbG := gq1 (List.mem_of_getElem? (i := 49) (by decide +kernel)) (by decide +kernel)
theorem q1_50 : Cond.fieldLink RX5 9 "MusicBox$Works" "pinned" "[I" ∈ tbG := gq1 (List.mem_of_getElem? (i := 50) (by decide +kernel)) (by decide +kernel)
theorem q1_51 : Cond.fieldLink RX4 64 "MusicBox$Works" "pinned" "[I" ∈ tbG := gq1 (List.mem_of_getElem? (i := 51) (by decide +kernel)) (by decide +kernel)
theorem q1_52 : Cond.fieldLink RX3 83 "MusicBox$Works" "pinned" "[I" ∈ tbG := gq1 (List.mem_of_getElem? (i := 52) (by decide +kernel)) (by decide +kernel)
theorem q1_53 : Cond.fieldLink RX6 181 "MusicBox$Works" "pinned" "[I" ∈ tbG := gq1 (List.mem_of_getElem? (i := 53) (by decide +kernel)) (by decide +kernel)
theorem q1_54 : Cond.fieldLink RX5 15 "MusicBox$Works" "kinds" "[I" ∈ tbG := gq1 (List.mem_of_getElem? (i := 54) (by decide +kernel)) (by decide +kernel)
theorem q1_55 : Cond.fieldLink RX0 27 "MusicBox$Works" "kinds" "[I" ∈ tbG := gq1 (List.mem_of_getElem? (i := 55) (by decide +kernel)) (by decide +kernel)
theorem q1_56 : Cond.fieldLink RX4 74 "MusicBox$Works" "kinds" "[I" ∈ tbG := gq1 (List.mem_of_getElem? (i := 56) (by decide +kernel)) (by decide +kernel)
theorem q1_57 : Cond.fieldLink RX3 134 "MusicBox$Works" "kinds" "[I" ∈ tbG := gq1 (List.mem_of_getElem? (i := 57) (by decide +kernel)) (by decide +kernel)
theorem q1_58 : Cond.fieldLink RX6 262 "MusicBox$Works" "kinds" "[I" ∈ tbG := gq1 (List.mem_of_getElem? (i := 58) (by decide +kernel)) (by decide +kernel)
theorem q1_59 : Cond.fieldLink RX5 18 "MusicBox$Works" "tuned" "[I" ∈ tbG := gq1 (List.mem_of_getElem? (i := 59) (by decide +kernel)) (by decide +kernel)
theorem q1_60 : Cond.fieldLink RX0 45 "MusicBox$Works" "tuned" "[I" ∈ tbG := gq1 (List.mem_of_getElem? (i := 60) (by decide +kernel)) (by decide +kernel)
theorem q1_61 : Cond.fieldLink RX4 77 "MusicBox$Works" "tuned" "[I" ∈ tbG := gq1 (List.mem_of_getElem? (i := 61) (by decide +kernel)) (by decide +kernel)
theorem q1_62 : Cond.fieldLink RX6 196 "MusicBox$Works" "tuned" "[I" ∈ tbG := gq1 (List.mem_of_getElem? (i := 62) (by decide +kernel)) (by decide +kernel)
theorem q1_63 : Cond.fieldLink RX3 141 "MusicBox$Works" "tuned" "[I" ∈ tbG := gq1 (List.mem_of_getElem? (i := 63) (by decide +kernel)) (by decide +kernel)
theorem q1_64 : Cond.fieldLink RX5 21 "MusicBox$Works" "rings" "[I" ∈ tbG := gq1 (List.mem_of_getElem? (i := 64) (by decide +kernel)) (by decide +kernel)
theorem q1_65 : Cond.fieldLink RX3 36 "MusicBox$Works" "rings" "[I" ∈ tbG := gq1 (List.mem_of_getElem? (i := 65) (by decide +kernel)) (by decide +kernel)
theorem q1_66 : Cond.fieldLink RX0 48 "MusicBox$Works" "rings" "[I" ∈ tbG := gq1 (List.mem_of_getElem? (i := 66) (by decide +kernel)) (by decide +kernel)
theorem q1_67 : Cond.fieldLink RX6 199 "MusicBox$Works" "rings" "[I" ∈ tbG := gq1 (List.mem_of_getElem? (i := 67) (by decide +kernel)) (by decide +kernel)
theorem q1_68 : Cond.fieldLink RX5 24 "MusicBox$Works" "plucked" "[I" ∈ tbG := gq1 (List.mem_of_getElem? (i := 68) (by decide +kernel)) (by decide +kernel)
theorem q1_69 : Cond.fieldLink RX3 40 "MusicBox$Works" "plucked" "[I" ∈ tbG := gq1 (List.mem_of_getElem? (i := 69) (by decide +kernel)) (by decide +kernel)
theorem q1_70 : Cond.fieldLink RX6 190 "MusicBox$Works" "plucked" "[I" ∈ tbG := gq1 (List.mem_of_getElem? (i := 70) (by decide +kernel)) (by decide +kernel)
theorem q1_95 : Cond.classLink RX6 29 RX4 ∈ tbG := gq1 (List.mem_of_getElem? (i := 95) (by decide +kernel)) (by decide +kernel)
theorem q1_96 : Cond.instantiable RX4 5 ∈ tbG := gq1 (List.mem_of_getElem? (i := 96) (by decide +kernel)) (by decide +kernel)
theorem q1_97 : Cond.methodLink RX6 31 yX4_init ∈ tbG := gq1 (List.mem_of_getElem? (i := 97) (by decide +kernel)) (by decide +kernel)
theorem q1_98 : Cond.instanceMethod yX4_init ∈ tbG := gq1 (List.mem_of_getElem? (i := 98) (by decide +kernel)) (by decide +kernel)
theorem q1_99 : Cond.code yX4_init cX4_init 1 none ∈ tbG := gq1 (List.mem_of_getElem? (i := 99) rfl) rfl
theorem q1_100 : Cond.methodLink RX4 3 objectInit ∈ tbG := gq1 (List.mem_of_getElem? (i := 100) (by decide +kernel)) (by decide +kernel)
theorem q1_101 : Cond.fieldLink RX4 9 "MusicBox$Tape" "bytes" "[I" ∈ tbG := gq1 (List.mem_of_getElem? (i := 101) (by decide +kernel)) (by decide +kernel)
theorem q1_102 : Cond.fieldLink RX4 15 "MusicBox$Tape" "length" "I" ∈ tbG := gq1 (List.mem_of_getElem? (i := 102) (by decide +kernel)) (by decide +kernel)
theorem q1_103 : Cond.fieldLink RX6 113 "MusicBox$Tape" "length" "I" ∈ tbG := gq1 (List.mem_of_getElem? (i := 103) (by decide +kernel)) (by decide +kernel)
theorem q1_104 : Cond.fieldLink RX4 19 "MusicBox$Tape" "at" "I" ∈ tbG := gq1 (List.mem_of_getElem? (i := 104) (by decide +kernel)) (by decide +kernel)
theorem q1_105 : Cond.fieldLink RX6 131 "MusicBox$Tape" "at" "I" ∈ tbG := gq1 (List.mem_of_getElem? (i := 105) (by decide +kernel)) (by decide +kernel)
theorem q1_106 : Cond.fieldLink RX4 22 "MusicBox$Tape" "fault" "I" ∈ tbG := gq1 (List.mem_of_getElem? (i := 106) (by decide +kernel)) (by decide +kernel)
theorem q1_107 : Cond.fieldLink RX6 124 "MusicBox$Tape" "fault" "I" ∈ tbG := gq1 (List.mem_of_getElem? (i := 107) (by decide +kernel)) (by decide +kernel)
theorem q1_108 : Cond.fieldLink RX4 48 "MusicBox$Tape" "number" "I" ∈ tbG := gq1 (List.mem_of_getElem? (i := 108) (by decide +kernel)) (by decide +kernel)
theorem q1_120 : Cond.classLink RX6 36 RX1 ∈ tbG := gq1 (List.mem_of_getElem? (i := 120) (by decide +kernel)) (by decide +kernel)
theorem q1_121 : Cond.instantiable RX1 3 ∈ tbG := gq1 (List.mem_of_getElem? (i := 121) (by decide +kernel)) (by decide +kernel)
theorem q1_122 : Cond.methodLink RX6 38 yX1_init ∈ tbG := gq1 (List.mem_of_getElem? (i := 122) (by decide +kernel)) (by decide +kernel)
theorem q1_123 : Cond.instanceMethod yX1_init ∈ tbG := gq1 (List.mem_of_getElem? (i := 123) (by decide +kernel)) (by decide +kernel)
theorem q1_124 : Cond.code yX1_init cX1_init 2 none ∈ tbG := gq1 (List.mem_of_getElem? (i := 124) rfl) rfl
theorem q1_125 : Cond.methodLink RX1 3 objectInit ∈ tbG := gq1 (List.mem_of_getElem? (i := 125) (by decide +kernel)) (by decide +kernel)
theorem q1_126 : Cond.classLink RX1 9 RX5 ∈ tbG := gq1 (List.mem_of_getElem? (i := 126) (by decide +kernel)) (by decide +kernel)
theorem q1_127 : Cond.methodLink RX1 17 yX5_init ∈ tbG := gq1 (List.mem_of_getElem? (i := 127) (by decide +kernel)) (by decide +kernel)
theorem q1_128 : Cond.fieldLink RX1 11 "MusicBox$Past" "kept" "[LMusicBox$Works;" ∈ tbG := gq1 (List.mem_of_getElem? (i := 128) (by decide +kernel)) (by decide +kernel)
theorem q1_129 : Cond.fieldLink RX1 18 "MusicBox$Past" "next" "I" ∈ tbG := gq1 (List.mem_of_getElem? (i := 129) (by decide +kernel)) (by decide +kernel)
theorem q1_130 : Cond.fieldLink RX1 26 "MusicBox$Past" "size" "I" ∈ tbG := gq1 (List.mem_of_getElem? (i := 130) (by decide +kernel)) (by decide +kernel)
theorem q1_131 : Cond.fieldLink RX6 143 "MusicBox$Past" "size" "I" ∈ tbG := gq1 (List.mem_of_getElem? (i := 131) (by decide +kernel)) (by decide +kernel)
theorem q1_139 : Cond.classLink RX6 43 RX3 ∈ tbG := gq1 (List.mem_of_getElem? (i := 139) (by decide +kernel)) (by decide +kernel)
theorem q1_140 : Cond.instantiable RX3 3 ∈ tbG := gq1 (List.mem_of_getElem? (i := 140) (by decide +kernel)) (by decide +kernel)
theorem q1_141 : Cond.methodLink RX6 45 yX3_init ∈ tbG := gq1 (List.mem_of_getElem? (i := 141) (by decide +kernel)) (by decide +kernel)
theorem q1_142 : Cond.instanceMethod yX3_init ∈ tbG := gq1 (List.mem_of_getElem? (i := 142) (by decide +kernel)) (by decide +kernel)
theorem q1_143 : Cond.code yX3_init cX3_init 3 none ∈ tbG := gq1 (List.mem_of_getElem? (i := 143) rfl) rfl
theorem q1_144 : Cond.methodLink RX3 3 objectInit ∈ tbG := gq1 (List.mem_of_getElem? (i := 144) (by decide +kernel)) (by decide +kernel)
theorem q1_145 : Cond.classLink RX3 9 RX5 ∈ tbG := gq1 (List.mem_of_getElem? (i := 145) (by decide +kernel)) (by decide +kernel)
theorem q1_146 : Cond.methodLink RX3 11 yX5_init ∈ tbG := gq1 (List.mem_of_getElem? (i := 146) (by decide +kernel)) (by decide +kernel)
theorem q1_147 : Cond.fieldLink RX3 22 "MusicBox$Seer" "now" "LMusicBox$Works;" ∈ tbG := gq1 (List.mem_of_getElem? (i := 147) (by decide +kernel)) (by decide +kernel)
theorem q1_148 : Cond.fieldLink RX3 12 "MusicBox$Seer" "trial" "LMusicBox$Works;" ∈ tbG := gq1 (List.mem_of_getElem? (i := 148) (by decide +kernel)) (by decide +kernel)
theorem q1_149 : Cond.fieldLink RX3 18 "MusicBox$Seer" "cases" "[LMusicBox$Works;" ∈ tbG := gq1 (List.mem_of_getElem? (i := 149) (by decide +kernel)) (by decide +kernel)
theorem q1_157 : Cond.classLink RX6 52 RX0 ∈ tbG := gq1 (List.mem_of_getElem? (i := 157) (by decide +kernel)) (by decide +kernel)
theorem q1_158 : Cond.instantiable RX0 3 ∈ tbG := gq1 (List.mem_of_getElem? (i := 158) (by decide +kernel)) (by decide +kernel)
theorem q1_159 : Cond.methodLink RX6 54 yX0_init ∈ tbG := gq1 (List.mem_of_getElem? (i := 159) (by decide +kernel)) (by decide +kernel)
theorem q1_160 : Cond.instanceMethod yX0_init ∈ tbG := gq1 (List.mem_of_getElem? (i := 160) (by decide +kernel)) (by decide +kernel)
theorem q1_161 : Cond.code yX0_init cX0_init 2 none ∈ tbG := gq1 (List.mem_of_getElem? (i := 161) rfl) rfl
theorem q1_162 : Cond.methodLink RX0 3 objectInit ∈ tbG := gq1 (List.mem_of_getElem? (i := 162) (by decide +kernel)) (by decide +kernel)
theorem q1_163 : Cond.fieldLink RX0 15 "MusicBox$Asking" "now" "LMusicBox$Works;" ∈ tbG := gq1 (List.mem_of_getElem? (i := 163) (by decide +kernel)) (by decide +kernel)
theorem q1_164 : Cond.fieldLink RX0 9 "MusicBox$Asking" "left" "[I" ∈ tbG := gq1 (List.mem_of_getElem? (i := 164) (by decide +kernel)) (by decide +kernel)
theorem q1_165 : Cond.fieldLink RX6 272 "MusicBox$Asking" "left" "[I" ∈ tbG := gq1 (List.mem_of_getElem? (i := 165) (by decide +kernel)) (by decide +kernel)
theorem q1_166 : Cond.fieldLink RX0 19 "MusicBox$Asking" "length" "I" ∈ tbG := gq1 (List.mem_of_getElem? (i := 166) (by decide +kernel)) (by decide +kernel)
theorem q1_167 : Cond.fieldLink RX6 271 "MusicBox$Asking" "length" "I" ∈ tbG := gq1 (List.mem_of_getElem? (i := 167) (by decide +kernel)) (by decide +kernel)
theorem q1_175 : Cond.instantiable RX2 4 ∈ tbG := gq1 (List.mem_of_getElem? (i := 175) (by decide +kernel)) (by decide +kernel)
theorem q1_176 : Cond.methodLink RX6 59 yX2_init ∈ tbG := gq1 (List.mem_of_getElem? (i := 176) (by decide +kernel)) (by decide +kernel)
theorem q1_177 : Cond.instanceMethod yX2_init ∈ tbG := gq1 (List.mem_of_getElem? (i := 177) (by decide +kernel)) (by decide +kernel)
theorem q1_178 : Cond.code yX2_init cX2_init 1 none ∈ tbG := gq1 (List.mem_of_getElem? (i := 178) rfl) rfl
theorem q1_179 : Cond.methodLink RX2 3 objectInit ∈ tbG := gq1 (List.mem_of_getElem? (i := 179) (by decide +kernel)) (by decide +kernel)
theorem q1_180 : Cond.fieldLink RX2 9 "MusicBox$Row" "items" "[I" ∈ tbG := gq1 (List.mem_of_getElem? (i := 180) (by decide +kernel)) (by decide +kernel)
theorem q1_181 : Cond.fieldLink RX6 100 "MusicBox$Row" "items" "[I" ∈ tbG := gq1 (List.mem_of_getElem? (i := 181) (by decide +kernel)) (by decide +kernel)
theorem q1_182 : Cond.fieldLink RX3 86 "MusicBox$Row" "items" "[I" ∈ tbG := gq1 (List.mem_of_getElem? (i := 182) (by decide +kernel)) (by decide +kernel)
theorem q1_183 : Cond.fieldLink RX2 15 "MusicBox$Row" "there" "Z" ∈ tbG := gq1 (List.mem_of_getElem? (i := 183) (by decide +kernel)) (by decide +kernel)
theorem q1_184 : Cond.fieldLink RX6 88 "MusicBox$Row" "there" "Z" ∈ tbG := gq1 (List.mem_of_getElem? (i := 184) (by decide +kernel)) (by decide +kernel)
theorem q1_185 : Cond.fieldLink RX2 19 "MusicBox$Row" "lane" "I" ∈ tbG := gq1 (List.mem_of_getElem? (i := 185) (by decide +kernel)) (by decide +kernel)
theorem q1_186 : Cond.fieldLink RX6 92 "MusicBox$Row" "lane" "I" ∈ tbG := gq1 (List.mem_of_getElem? (i := 186) (by decide +kernel)) (by decide +kernel)
theorem q1_187 : Cond.fieldLink RX2 23 "MusicBox$Row" "size" "I" ∈ tbG := gq1 (List.mem_of_getElem? (i := 187) (by decide +kernel)) (by decide +kernel)
theorem q1_188 : Cond.fieldLink RX6 110 "MusicBox$Row" "size" "I" ∈ tbG := gq1 (List.mem_of_getElem? (i := 188) (by decide +kernel)) (by decide +kernel)
theorem q1_198 : Cond.fieldLink RX6 11 "MusicBox" "rows" "[LMusicBox$Row;" ∈ tbG := gq1 (List.mem_of_getElem? (i := 198) (by decide +kernel)) (by decide +kernel)
theorem q1_199 : Cond.fieldLink RX6 17 "MusicBox" "images" "[LMusicBox$Works;" ∈ tbG := gq1 (List.mem_of_getElem? (i := 199) (by decide +kernel)) (by decide +kernel)
theorem q1_200 : Cond.fieldLink RX6 22 "MusicBox" "now" "LMusicBox$Works;" ∈ tbG := gq1 (List.mem_of_getElem? (i := 200) (by decide +kernel)) (by decide +kernel)
theorem q1_201 : Cond.fieldLink RX6 26 "MusicBox" "draft" "LMusicBox$Works;" ∈ tbG := gq1 (List.mem_of_getElem? (i := 201) (by decide +kernel)) (by decide +kernel)
theorem q1_202 : Cond.fieldLink RX6 32 "MusicBox" "tape" "LMusicBox$Tape;" ∈ tbG := gq1 (List.mem_of_getElem? (i := 202) (by decide +kernel)) (by decide +kernel)
theorem q1_203 : Cond.fieldLink RX6 39 "MusicBox" "past" "LMusicBox$Past;" ∈ tbG := gq1 (List.mem_of_getElem? (i := 203) (by decide +kernel)) (by decide +kernel)
theorem q1_204 : Cond.fieldLink RX6 48 "MusicBox" "seer" "LMusicBox$Seer;" ∈ tbG := gq1 (List.mem_of_getElem? (i := 204) (by decide +kernel)) (by decide +kernel)
theorem q1_205 : Cond.fieldLink RX6 55 "MusicBox" "asking" "LMusicBox$Asking;" ∈ tbG := gq1 (List.mem_of_getElem? (i := 205) (by decide +kernel)) (by decide +kernel)
theorem q1_206 : Cond.fieldLink RX6 282 "MusicBox" "latestFinding" "I" ∈ tbG := gq1 (List.mem_of_getElem? (i := 206) (by decide +kernel)) (by decide +kernel)
theorem q1_207 : Cond.fieldLink RX6 127 "MusicBox" "latestFault" "I" ∈ tbG := gq1 (List.mem_of_getElem? (i := 207) (by decide +kernel)) (by decide +kernel)
theorem q1_229 : Cond.methodLink RL 13 yX6_row ∈ tbG := gq1 (List.mem_of_getElem? (i := 229) (by decide +kernel)) (by decide +kernel)
theorem q1_230 : Cond.instanceMethod yX6_row ∈ tbG := gq1 (List.mem_of_getElem? (i := 230) (by decide +kernel)) (by decide +kernel)
theorem q1_231 : Cond.selects RX6 yX6_row yX6_row ∈ tbG := gq1 (List.mem_of_getElem? (i := 231) (by decide +kernel)) (by decide +kernel)
theorem q1_232 : Cond.code yX6_row cX6_row 4 (some .int) ∈ tbG := gq1 (List.mem_of_getElem? (i := 232) rfl) rfl
theorem q1_233 : Cond.methodLink RX6 60 yX6_isRow ∈ tbG := gq1 (List.mem_of_getElem? (i := 233) (by decide +kernel)) (by decide +kernel)
theorem q1_234 : Cond.static yX6_isRow ∈ tbG := gq1 (List.mem_of_getElem? (i := 234) (by decide +kernel)) (by decide +kernel)
theorem q1_235 : Cond.code yX6_isRow cX6_isRow 1 (some .boolean) ∈ tbG := gq1 (List.mem_of_getElem? (i := 235) rfl) rfl
theorem q1_236 : Cond.methodLink RX6 64 yX6_within ∈ tbG := gq1 (List.mem_of_getElem? (i := 236) (by decide +kernel)) (by decide +kernel)
theorem q1_237 : Cond.static yX6_within ∈ tbG := gq1 (List.mem_of_getElem? (i := 237) (by decide +kernel)) (by decide +kernel)
theorem q1_238 : Cond.code yX6_within cX6_within 3 (some .boolean) ∈ tbG := gq1 (List.mem_of_getElem? (i := 238) rfl) rfl
theorem q1_239 : Cond.constant RX6 68 (-1000001 : Int32) ∈ tbG := gq1 (List.mem_of_getElem? (i := 239) (by decide +kernel)) (by decide +kernel)
theorem q2_0 : Cond.methodLink RX6 69 yX6_found ∈ tbG := gq2 (List.mem_of_getElem? (i := 0) (by decide +kernel)) (by decide +kernel)
theorem q2_2 : Cond.instanceMethod yX6_found ∈ tbG := gq2 (List.mem_of_getElem? (i := 2) (by decide +kernel)) (by decide +kernel)
theorem q2_3 : Cond.code yX6_found cX6_found 2 (some .int) ∈ tbG := gq2 (List.mem_of_getElem? (i := 3) rfl) rfl
theorem q2_4 : Cond.constant RX6 288 (-1000010 : Int32) ∈ tbG := gq2 (List.mem_of_getElem? (i := 4) (by decide +kernel)) (by decide +kernel)
theorem q2_5 : Cond.methodLink RX6 73 yX2_startOver ∈ tbG := gq2 (List.mem_of_getElem? (i := 5) (by decide +kernel)) (by decide +kernel)
theorem q2_6 : Cond.instanceMethod yX2_startOver ∈ tbG := gq2 (List.mem_of_getElem? (i := 6) (by decide +kernel)) (by decide +kernel)
theorem q2_7 : Cond.selects RX2 yX2_startOver yX2_startOver ∈ tbG := gq2 (List.mem_of_getElem? (i := 7) (by decide +kernel)) (by decide +kernel)
theorem q2_8 : Cond.code yX2_startOver cX2_startOver 3 none ∈ tbG := gq2 (List.mem_of_getElem? (i := 8) rfl) rfl
theorem q2_9 : Cond.methodLink RX2 26 yJ7_fill_53178 ∈ tbG := gq2 (List.mem_of_getElem? (i := 9) (by decide +kernel)) (by decide +kernel)
theorem q2_10 : Cond.static yJ7_fill_53178 ∈ tbG := gq2 (List.mem_of_getElem? (i := 10) (by decide +kernel)) (by decide +kernel)
theorem q2_11 : Cond.code yJ7_fill_53178 cJ7_fill_53178 4 none ∈ tbG := gq2 (List.mem_of_getElem? (i := 11) rfl) rfl
theorem q2_12 : Cond.methodLink RX6 77 yX6_unfound ∈ tbG := gq2 (List.mem_of_getElem? (i := 12) (by decide +kernel)) (by decide +kernel)
theorem q2_14 : Cond.instanceMethod yX6_unfound ∈ tbG := gq2 (List.mem_of_getElem? (i := 14) (by decide +kernel)) (by decide +kernel)
theorem q2_15 : Cond.code yX6_unfound cX6_unfound 2 (some .int) ∈ tbG := gq2 (List.mem_of_getElem? (i := 15) rfl) rfl
theorem q2_16 : Cond.methodLink RL 18 yX6_set ∈ tbG := gq2 (List.mem_of_getElem? (i := 16) (by decide +kernel)) (by decide +kernel)
theorem q2_17 : Cond.instanceMethod yX6_set ∈ tbG := gq2 (List.mem_of_getElem? (i := 17) (by decide +kernel)) (by decide +kernel)
theorem q2_18 : Cond.selects RX6 yX6_set yX6_set ∈ tbG := gq2 (List.mem_of_getElem? (i := 18) (by decide +kernel)) (by decide +kernel)
theorem q2_19 : Cond.code yX6_set cX6_set 5 (some .int) ∈ tbG := gq2 (List.mem_of_getElem? (i := 19) rfl) rfl
theorem q2_20 : Cond.methodLink RX6 80 yX6_findingOf ∈ tbG := gq2 (List.mem_of_getElem? (i := 20) (by decide +kernel)) (by decide +kernel)
theorem q2_21 : Cond.static yX6_findingOf ∈ tbG := gq2 (List.mem_of_getElem? (i := 21) (by decide +kernel)) (by decide +kernel)
theorem q2_22 : Cond.code yX6_findingOf cX6_findingOf 3 (some .int) ∈ tbG := gq2 (List.mem_of_getElem? (i := 22) rfl) rfl
theorem q2_23 : Cond.methodLink RX6 96 yX2_holds ∈ tbG := gq2 (List.mem_of_getElem? (i := 23) (by decide +kernel)) (by decide +kernel)
theorem q2_24 : Cond.instanceMethod yX2_holds ∈ tbG := gq2 (List.mem_of_getElem? (i := 24) (by decide +kernel)) (by decide +kernel)
theorem q2_25 : Cond.selects RX2 yX2_holds yX2_holds ∈ tbG := gq2 (List.mem_of_getElem? (i := 25) (by decide +kernel)) (by decide +kernel)
theorem q2_26 : Cond.code yX2_holds cX2_holds 3 (some .boolean) ∈ tbG := gq2 (List.mem_of_getElem? (i := 26) rfl) rfl
theorem q2_27 : Cond.methodLink RX6 84 yX2_put ∈ tbG := gq2 (List.mem_of_getElem? (i := 27) (by decide +kernel)) (by decide +kernel)
theorem q2_28 : Cond.instanceMethod yX2_put ∈ tbG := gq2 (List.mem_of_getElem? (i := 28) (by decide +kernel)) (by decide +kernel)
theorem q2_29 : Cond.selects RX2 yX2_put yX2_put ∈ tbG := gq2 (List.mem_of_getElem? (i := 29) (by decide +kernel)) (by decide +kernel)
theorem q2_30 : Cond.code yX2_put cX2_put 3 (some .int) ∈ tbG := gq2 (List.mem_of_getElem? (i := 30) rfl) rfl
theorem q2_31 : Cond.methodLink RX2 32 yX2_cut ∈ tbG := gq2 (List.mem_of_getElem? (i := 31) (by decide +kernel)) (by decide +kernel)
theorem q2_33 : Cond.instanceMethod yX2_cut ∈ tbG := gq2 (List.mem_of_getElem? (i := 33) (by decide +kernel)) (by decide +kernel)
theorem q2_34 : Cond.code yX2_cut cX2_cut 2 (some .int) ∈ tbG := gq2 (List.mem_of_getElem? (i := 34) rfl) rfl
theorem q2_35 : Cond.methodLink RL 22 yX6_copy ∈ tbG := gq2 (List.mem_of_getElem? (i := 35) (by decide +kernel)) (by decide +kernel)
theorem q2_36 : Cond.instanceMethod yX6_copy ∈ tbG := gq2 (List.mem_of_getElem? (i := 36) (by decide +kernel)) (by decide +kernel)
theorem q2_37 : Cond.selects RX6 yX6_copy yX6_copy ∈ tbG := gq2 (List.mem_of_getElem? (i := 37) (by decide +kernel)) (by decide +kernel)
theorem q2_38 : Cond.code yX6_copy cX6_copy 8 (some .int) ∈ tbG := gq2 (List.mem_of_getElem? (i := 38) rfl) rfl
theorem q2_39 : Cond.methodLink RX6 104 arraycopyName ∈ tbG := gq2 (List.mem_of_getElem? (i := 39) (by decide +kernel)) (by decide +kernel)
theorem q2_40 : Cond.static arraycopyName ∈ tbG := gq2 (List.mem_of_getElem? (i := 40) (by decide +kernel)) (by decide +kernel)
theorem q2_41 : Cond.native arraycopyName ∈ tbG := gq2 (List.mem_of_getElem? (i := 41) (by decide +kernel)) (by decide +kernel)
theorem q2_42 : Cond.methodLink RL 27 yX6_drop ∈ tbG := gq2 (List.mem_of_getElem? (i := 42) (by decide +kernel)) (by decide +kernel)
theorem q2_43 : Cond.instanceMethod yX6_drop ∈ tbG := gq2 (List.mem_of_getElem? (i := 43) (by decide +kernel)) (by decide +kernel)
theorem q2_44 : Cond.selects RX6 yX6_drop yX6_drop ∈ tbG := gq2 (List.mem_of_getElem? (i := 44) (by decide +kernel)) (by decide +kernel)
theorem q2_45 : Cond.code yX6_drop cX6_drop 2 (some .int) ∈ tbG := gq2 (List.mem_of_getElem? (i := 45) rfl) rfl
theorem q2_46 : Cond.methodLink RL 32 yX6_feed ∈ tbG := gq2 (List.mem_of_getElem? (i := 46) (by decide +kernel)) (by decide +kernel)
theorem q2_47 : Cond.instanceMethod yX6_feed ∈ tbG := gq2 (List.mem_of_getElem? (i := 47) (by decide +kernel)) (by decide +kernel)
theorem q2_48 : Cond.selects RX6 yX6_feed yX6_feed ∈ tbG := gq2 (List.mem_of_getElem? (i := 48) (by decide +kernel)) (by decide +kernel)
theorem q2_49 : Cond.code yX6_feed cX6_feed 2 (some .int) ∈ tbG := gq2 (List.mem_of_getElem? (i := 49) rfl) rfl
theorem q2_50 : Cond.constant RX6 116 (-1000003 : Int32) ∈ tbG := gq2 (List.mem_of_getElem? (i := 50) (by decide +kernel)) (by decide +kernel)
theorem q2_51 : Cond.methodLink RX6 117 yX4_add ∈ tbG := gq2 (List.mem_of_getElem? (i := 51) (by decide +kernel)) (by decide +kernel)
theorem q2_52 : Cond.instanceMethod yX4_add ∈ tbG := gq2 (List.mem_of_getElem? (i := 52) (by decide +kernel)) (by decide +kernel)
theorem q2_53 : Cond.selects RX4 yX4_add yX4_add ∈ tbG := gq2 (List.mem_of_getElem? (i := 53) (by decide +kernel)) (by decide +kernel)
theorem q2_54 : Cond.code yX4_add cX4_add 2 (some .int) ∈ tbG := gq2 (List.mem_of_getElem? (i := 54) rfl) rfl
theorem q2_55 : Cond.methodLink RL 36 yX6_box ∈ tbG := gq2 (List.mem_of_getElem? (i := 55) (by decide +kernel)) (by decide +kernel)
theorem q2_56 : Cond.instanceMethod yX6_box ∈ tbG := gq2 (List.mem_of_getElem? (i := 56) (by decide +kernel)) (by decide +kernel)
theorem q2_57 : Cond.selects RX6 yX6_box yX6_box ∈ tbG := gq2 (List.mem_of_getElem? (i := 57) (by decide +kernel)) (by decide +kernel)
theorem q2_58 : Cond.code yX6_box cX6_box 2 (some .int) ∈ tbG := gq2 (List.mem_of_getElem? (i := 58) rfl) rfl
theorem q2_59 : Cond.methodLink RX6 120 yX4_readInto ∈ tbG := gq2 (List.mem_of_getElem? (i := 59) (by decide +kernel)) (by decide +kernel)
theorem q2_60 : Cond.instanceMethod yX4_readInto ∈ tbG := gq2 (List.mem_of_getElem? (i := 60) (by decide +kernel)) (by decide +kernel)
theorem q2_61 : Cond.selects RX4 yX4_readInto yX4_readInto ∈ tbG := gq2 (List.mem_of_getElem? (i := 61) (by decide +kernel)) (by decide +kernel)
theorem q2_62 : Cond.code yX4_readInto cX4_readInto 2 (some .boolean) ∈ tbG := gq2 (List.mem_of_getElem? (i := 62) rfl) rfl
theorem q2_63 : Cond.methodLink RX4 25 yX5_clear ∈ tbG := gq2 (List.mem_of_getElem? (i := 63) (by decide +kernel)) (by decide +kernel)
theorem q2_64 : Cond.instanceMethod yX5_clear ∈ tbG := gq2 (List.mem_of_getElem? (i := 64) (by decide +kernel)) (by decide +kernel)
theorem q2_65 : Cond.selects RX5 yX5_clear yX5_clear ∈ tbG := gq2 (List.mem_of_getElem? (i := 65) (by decide +kernel)) (by decide +kernel)
theorem q2_66 : Cond.code yX5_clear cX5_clear 1 none ∈ tbG := gq2 (List.mem_of_getElem? (i := 66) rfl) rfl
theorem q2_67 : Cond.methodLink RX5 52 yJ7_fill_53178 ∈ tbG := gq2 (List.mem_of_getElem? (i := 67) (by decide +kernel)) (by decide +kernel)
theorem q2_68 : Cond.methodLink RX4 30 yX4_readLaw ∈ tbG := gq2 (List.mem_of_getElem? (i := 68) (by decide +kernel)) (by decide +kernel)
theorem q2_70 : Cond.instanceMethod yX4_readLaw ∈ tbG := gq2 (List.mem_of_getElem? (i := 70) (by decide +kernel)) (by decide +kernel)
theorem q2_71 : Cond.code yX4_readLaw cX4_readLaw 2 (some .boolean) ∈ tbG := gq2 (List.mem_of_getElem? (i := 71) rfl) rfl
theorem q2_72 : Cond.methodLink RX4 40 yX4_take ∈ tbG := gq2 (List.mem_of_getElem? (i := 72) (by decide +kernel)) (by decide +kernel)
theorem q2_74 : Cond.instanceMethod yX4_take ∈ tbG := gq2 (List.mem_of_getElem? (i := 74) (by decide +kernel)) (by decide +kernel)
theorem q2_75 : Cond.code yX4_take cX4_take 2 (some .boolean) ∈ tbG := gq2 (List.mem_of_getElem? (i := 75) rfl) rfl
theorem q2_76 : Cond.methodLink RX4 57 yX4_coming ∈ tbG := gq2 (List.mem_of_getElem? (i := 76) (by decide +kernel)) (by decide +kernel)
theorem q2_78 : Cond.instanceMethod yX4_coming ∈ tbG := gq2 (List.mem_of_getElem? (i := 78) (by decide +kernel)) (by decide +kernel)
theorem q2_79 : Cond.code yX4_coming cX4_coming 1 (some .int) ∈ tbG := gq2 (List.mem_of_getElem? (i := 79) rfl) rfl
theorem q2_80 : Cond.methodLink RX4 61 yX4_fail ∈ tbG := gq2 (List.mem_of_getElem? (i := 80) (by decide +kernel)) (by decide +kernel)
theorem q2_82 : Cond.instanceMethod yX4_fail ∈ tbG := gq2 (List.mem_of_getElem? (i := 82) (by decide +kernel)) (by decide +kernel)
theorem q2_83 : Cond.code yX4_fail cX4_fail 2 (some .boolean) ∈ tbG := gq2 (List.mem_of_getElem? (i := 83) rfl) rfl
theorem q2_84 : Cond.methodLink RX4 44 yX4_takeNumber ∈ tbG := gq2 (List.mem_of_getElem? (i := 84) (by decide +kernel)) (by decide +kernel)
theorem q2_86 : Cond.instanceMethod yX4_takeNumber ∈ tbG := gq2 (List.mem_of_getElem? (i := 86) (by decide +kernel)) (by decide +kernel)
theorem q2_87 : Cond.code yX4_takeNumber cX4_takeNumber 6 (some .boolean) ∈ tbG := gq2 (List.mem_of_getElem? (i := 87) rfl) rfl
theorem q2_88 : Cond.methodLink RX4 34 yX4_readColumns ∈ tbG := gq2 (List.mem_of_getElem? (i := 88) (by decide +kernel)) (by decide +kernel)
theorem q2_90 : Cond.instanceMethod yX4_readColumns ∈ tbG := gq2 (List.mem_of_getElem? (i := 90) (by decide +kernel)) (by decide +kernel)
theorem q2_91 : Cond.code yX4_readColumns cX4_readColumns 3 (some .boolean) ∈ tbG := gq2 (List.mem_of_getElem? (i := 91) rfl) rfl
theorem q2_92 : Cond.methodLink RX4 37 yX4_readTeeth ∈ tbG := gq2 (List.mem_of_getElem? (i := 92) (by decide +kernel)) (by decide +kernel)
theorem q2_94 : Cond.instanceMethod yX4_readTeeth ∈ tbG := gq2 (List.mem_of_getElem? (i := 94) (by decide +kernel)) (by decide +kernel)
theorem q2_95 : Cond.code yX4_readTeeth cX4_readTeeth 4 (some .boolean) ∈ tbG := gq2 (List.mem_of_getElem? (i := 95) rfl) rfl
theorem q2_96 : Cond.methodLink RX4 70 yX4_kindOf ∈ tbG := gq2 (List.mem_of_getElem? (i := 96) (by decide +kernel)) (by decide +kernel)
theorem q2_97 : Cond.static yX4_kindOf ∈ tbG := gq2 (List.mem_of_getElem? (i := 97) (by decide +kernel)) (by decide +kernel)
theorem q2_98 : Cond.code yX4_kindOf cX4_kindOf 1 (some .int) ∈ tbG := gq2 (List.mem_of_getElem? (i := 98) rfl) rfl
theorem q2_99 : Cond.constant RX6 130 (-1000100 : Int32) ∈ tbG := gq2 (List.mem_of_getElem? (i := 99) (by decide +kernel)) (by decide +kernel)
theorem q2_100 : Cond.methodLink RX6 134 yX5_takeFrom ∈ tbG := gq2 (List.mem_of_getElem? (i := 100) (by decide +kernel)) (by decide +kernel)
theorem q2_101 : Cond.instanceMethod yX5_takeFrom ∈ tbG := gq2 (List.mem_of_getElem? (i := 101) (by decide +kernel)) (by decide +kernel)
theorem q2_102 : Cond.selects RX5 yX5_takeFrom yX5_takeFrom ∈ tbG := gq2 (List.mem_of_getElem? (i := 102) (by decide +kernel)) (by decide +kernel)
theorem q2_103 : Cond.code yX5_takeFrom cX5_takeFrom 2 none ∈ tbG := gq2 (List.mem_of_getElem? (i := 103) rfl) rfl
theorem q2_104 : Cond.methodLink RX5 46 arraycopyName ∈ tbG := gq2 (List.mem_of_getElem? (i := 104) (by decide +kernel)) (by decide +kernel)
theorem q2_105 : Cond.methodLink RX6 137 yX1_forget ∈ tbG := gq2 (List.mem_of_getElem? (i := 105) (by decide +kernel)) (by decide +kernel)
theorem q2_106 : Cond.instanceMethod yX1_forget ∈ tbG := gq2 (List.mem_of_getElem? (i := 106) (by decide +kernel)) (by decide +kernel)
theorem q2_107 : Cond.selects RX1 yX1_forget yX1_forget ∈ tbG := gq2 (List.mem_of_getElem? (i := 107) (by decide +kernel)) (by decide +kernel)
theorem q2_108 : Cond.code yX1_forget cX1_forget 1 none ∈ tbG := gq2 (List.mem_of_getElem? (i := 108) rfl) rfl
theorem q2_109 : Cond.methodLink RL 41 yX6_fault ∈ tbG := gq2 (List.mem_of_getElem? (i := 109) (by decide +kernel)) (by decide +kernel)
theorem q2_110 : Cond.instanceMethod yX6_fault ∈ tbG := gq2 (List.mem_of_getElem? (i := 110) (by decide +kernel)) (by decide +kernel)
theorem q2_111 : Cond.selects RX6 yX6_fault yX6_fault ∈ tbG := gq2 (List.mem_of_getElem? (i := 111) (by decide +kernel)) (by decide +kernel)
theorem q2_112 : Cond.code yX6_fault cX6_fault 1 (some .int) ∈ tbG := gq2 (List.mem_of_getElem? (i := 112) rfl) rfl
theorem q2_113 : Cond.methodLink RL 45 yX6_undo ∈ tbG := gq2 (List.mem_of_getElem? (i := 113) (by decide +kernel)) (by decide +kernel)
theorem q2_114 : Cond.instanceMethod yX6_undo ∈ tbG := gq2 (List.mem_of_getElem? (i := 114) (by decide +kernel)) (by decide +kernel)
theorem q2_115 : Cond.selects RX6 yX6_undo yX6_undo ∈ tbG := gq2 (List.mem_of_getElem? (i := 115) (by decide +kernel)) (by decide +kernel)
theorem q2_116 : Cond.code yX6_undo cX6_undo 1 (some .int) ∈ tbG := gq2 (List.mem_of_getElem? (i := 116) rfl) rfl
theorem q2_117 : Cond.constant RX6 144 (-1000002 : Int32) ∈ tbG := gq2 (List.mem_of_getElem? (i := 117) (by decide +kernel)) (by decide +kernel)
theorem q2_118 : Cond.methodLink RX6 145 yX1_bringBack ∈ tbG := gq2 (List.mem_of_getElem? (i := 118) (by decide +kernel)) (by decide +kernel)
theorem q2_119 : Cond.instanceMethod yX1_bringBack ∈ tbG := gq2 (List.mem_of_getElem? (i := 119) (by decide +kernel)) (by decide +kernel)
theorem q2_120 : Cond.selects RX1 yX1_bringBack yX1_bringBack ∈ tbG := gq2 (List.mem_of_getElem? (i := 120) (by decide +kernel)) (by decide +kernel)
theorem q2_121 : Cond.code yX1_bringBack cX1_bringBack 2 none ∈ tbG := gq2 (List.mem_of_getElem? (i := 121) rfl) rfl
theorem q2_122 : Cond.methodLink RX1 22 yX5_takeFrom ∈ tbG := gq2 (List.mem_of_getElem? (i := 122) (by decide +kernel)) (by decide +kernel)
theorem q2_123 : Cond.methodLink RL 49 yX6_ticks ∈ tbG := gq2 (List.mem_of_getElem? (i := 123) (by decide +kernel)) (by decide +kernel)
theorem q2_124 : Cond.instanceMethod yX6_ticks ∈ tbG := gq2 (List.mem_of_getElem? (i := 124) (by decide +kernel)) (by decide +kernel)
theorem q2_125 : Cond.selects RX6 yX6_ticks yX6_ticks ∈ tbG := gq2 (List.mem_of_getElem? (i := 125) (by decide +kernel)) (by decide +kernel)
theorem q2_126 : Cond.code yX6_ticks cX6_ticks 3 (some .int) ∈ tbG := gq2 (List.mem_of_getElem? (i := 126) rfl) rfl
theorem q2_127 : Cond.methodLink RX6 148 yX6_hasBox ∈ tbG := gq2 (List.mem_of_getElem? (i := 127) (by decide +kernel)) (by decide +kernel)
theorem q2_129 : Cond.instanceMethod yX6_hasBox ∈ tbG := gq2 (List.mem_of_getElem? (i := 129) (by decide +kernel)) (by decide +kernel)
theorem q2_130 : Cond.code yX6_hasBox cX6_hasBox 1 (some .boolean) ∈ tbG := gq2 (List.mem_of_getElem? (i := 130) rfl) rfl
theorem q2_131 : Cond.methodLink RX6 155 yX1_keep ∈ tbG := gq2 (List.mem_of_getElem? (i := 131) (by decide +kernel)) (by decide +kernel)
theorem q2_132 : Cond.instanceMethod yX1_keep ∈ tbG := gq2 (List.mem_of_getElem? (i := 132) (by decide +kernel)) (by decide +kernel)
theorem q2_133 : Cond.selects RX1 yX1_keep yX1_keep ∈ tbG := gq2 (List.mem_of_getElem? (i := 133) (by decide +kernel)) (by decide +kernel)
theorem q2_134 : Cond.code yX1_keep cX1_keep 2 none ∈ tbG := gq2 (List.mem_of_getElem? (i := 134) rfl) rfl
theorem q2_135 : Cond.methodLink RX1 29 Lib.Math.min.name ∈ tbG := gq2 (List.mem_of_getElem? (i := 135) (by decide +kernel)) (by decide +kernel)
theorem q2_136 : Cond.static Lib.Math.min.name ∈ tbG := gq2 (List.mem_of_getElem? (i := 136) (by decide +kernel)) (by decide +kernel)
theorem q2_137 : Cond.code Lib.Math.min.name cJ9_min_7cf53 2 (some .int) ∈ tbG := gq2 (List.mem_of_getElem? (i := 137) rfl) rfl
theorem q2_138 : Cond.methodLink RX6 158 yX5_turn ∈ tbG := gq2 (List.mem_of_getElem? (i := 138) (by decide +kernel)) (by decide +kernel)
theorem q2_139 : Cond.instanceMethod yX5_turn ∈ tbG := gq2 (List.mem_of_getElem? (i := 139) (by decide +kernel)) (by decide +kernel)
theorem q2_140 : Cond.selects RX5 yX5_turn yX5_turn ∈ tbG := gq2 (List.mem_of_getElem? (i := 140) (by decide +kernel)) (by decide +kernel)
theorem q2_141 : Cond.code yX5_turn cX5_turn 4 (some .int) ∈ tbG := gq2 (List.mem_of_getElem? (i := 141) rfl) rfl
theorem q2_142 : Cond.methodLink RX5 58 yX5_faded ∈ tbG := gq2 (List.mem_of_getElem? (i := 142) (by decide +kernel)) (by decide +kernel)
theorem q2_143 : Cond.static yX5_faded ∈ tbG := gq2 (List.mem_of_getElem? (i := 143) (by decide +kernel)) (by decide +kernel)
theorem q2_144 : Cond.code yX5_faded cX5_faded 2 (some .int) ∈ tbG := gq2 (List.mem_of_getElem? (i := 144) rfl) rfl
theorem q2_145 : Cond.methodLink RX5 70 Lib.Math.max.name ∈ tbG := gq2 (List.mem_of_getElem? (i := 145) (by decide +kernel)) (by decide +kernel)
theorem q2_146 : Cond.static Lib.Math.max.name ∈ tbG := gq2 (List.mem_of_getElem? (i := 146) (by decide +kernel)) (by decide +kernel)
theorem q2_147 : Cond.code Lib.Math.max.name cJ9_max_7cf53 2 (some .int) ∈ tbG := gq2 (List.mem_of_getElem? (i := 147) rfl) rfl
theorem q2_148 : Cond.methodLink RX5 62 yX5_columnBehind ∈ tbG := gq2 (List.mem_of_getElem? (i := 148) (by decide +kernel)) (by decide +kernel)
theorem q2_149 : Cond.instanceMethod yX5_columnBehind ∈ tbG := gq2 (List.mem_of_getElem? (i := 149) (by decide +kernel)) (by decide +kernel)
theorem q2_150 : Cond.selects RX5 yX5_columnBehind yX5_columnBehind ∈ tbG := gq2 (List.mem_of_getElem? (i := 150) (by decide +kernel)) (by decide +kernel)
theorem q2_151 : Cond.code yX5_columnBehind cX5_columnBehind 1 (some .int) ∈ tbG := gq2 (List.mem_of_getElem? (i := 151) rfl) rfl
theorem q2_152 : Cond.methodLink RX5 66 yX5_pluck ∈ tbG := gq2 (List.mem_of_getElem? (i := 152) (by decide +kernel)) (by decide +kernel)
theorem q2_154 : Cond.instanceMethod yX5_pluck ∈ tbG := gq2 (List.mem_of_getElem? (i := 154) (by decide +kernel)) (by decide +kernel)
theorem q2_155 : Cond.code yX5_pluck cX5_pluck 2 none ∈ tbG := gq2 (List.mem_of_getElem? (i := 155) rfl) rfl
theorem q2_156 : Cond.methodLink RX5 75 Lib.Math.min.name ∈ tbG := gq2 (List.mem_of_getElem? (i := 156) (by decide +kernel)) (by decide +kernel)
theorem q2_157 : Cond.methodLink RX5 78 yX5_stir ∈ tbG := gq2 (List.mem_of_getElem? (i := 157) (by decide +kernel)) (by decide +kernel)
theorem q2_159 : Cond.instanceMethod yX5_stir ∈ tbG := gq2 (List.mem_of_getElem? (i := 159) (by decide +kernel)) (by decide +kernel)
theorem q2_160 : Cond.code yX5_stir cX5_stir 3 none ∈ tbG := gq2 (List.mem_of_getElem? (i := 160) rfl) rfl
theorem q2_161 : Cond.methodLink RX6 162 yX5_loud ∈ tbG := gq2 (List.mem_of_getElem? (i := 161) (by decide +kernel)) (by decide +kernel)
theorem q2_162 : Cond.instanceMethod yX5_loud ∈ tbG := gq2 (List.mem_of_getElem? (i := 162) (by decide +kernel)) (by decide +kernel)
theorem q2_163 : Cond.selects RX5 yX5_loud yX5_loud ∈ tbG := gq2 (List.mem_of_getElem? (i := 163) (by decide +kernel)) (by decide +kernel)
theorem q2_164 : Cond.code yX5_loud cX5_loud 3 (some .int) ∈ tbG := gq2 (List.mem_of_getElem? (i := 164) rfl) rfl
theorem q2_165 : Cond.methodLink RL 53 yX6_wind ∈ tbG := gq2 (List.mem_of_getElem? (i := 165) (by decide +kernel)) (by decide +kernel)
theorem q2_166 : Cond.instanceMethod yX6_wind ∈ tbG := gq2 (List.mem_of_getElem? (i := 166) (by decide +kernel)) (by decide +kernel)
theorem q2_167 : Cond.selects RX6 yX6_wind yX6_wind ∈ tbG := gq2 (List.mem_of_getElem? (i := 167) (by decide +kernel)) (by decide +kernel)
theorem q2_168 : Cond.code yX6_wind cX6_wind 2 (some .int) ∈ tbG := gq2 (List.mem_of_getElem? (i := 168) rfl) rfl
theorem q2_169 : Cond.methodLink RX6 165 yX5_windBy ∈ tbG := gq2 (List.mem_of_getElem? (i := 169) (by decide +kernel)) (by decide +kernel)
theorem q2_170 : Cond.instanceMethod yX5_windBy ∈ tbG := gq2 (List.mem_of_getElem? (i := 170) (by decide +kernel)) (by decide +kernel)
theorem q2_171 : Cond.selects RX5 yX5_windBy yX5_windBy ∈ tbG := gq2 (List.mem_of_getElem? (i := 171) (by decide +kernel)) (by decide +kernel)
theorem q2_172 : Cond.code yX5_windBy cX5_windBy 2 none ∈ tbG := gq2 (List.mem_of_getElem? (i := 172) rfl) rfl
theorem q2_173 : Cond.methodLink RL 57 yX6_pin ∈ tbG := gq2 (List.mem_of_getElem? (i := 173) (by decide +kernel)) (by decide +kernel)
theorem q2_174 : Cond.instanceMethod yX6_pin ∈ tbG := gq2 (List.mem_of_getElem? (i := 174) (by decide +kernel)) (by decide +kernel)
theorem q2_175 : Cond.selects RX6 yX6_pin yX6_pin ∈ tbG := gq2 (List.mem_of_getElem? (i := 175) (by decide +kernel)) (by decide +kernel)
theorem q2_176 : Cond.code yX6_pin cX6_pin 3 (some .int) ∈ tbG := gq2 (List.mem_of_getElem? (i := 176) rfl) rfl
theorem q2_177 : Cond.methodLink RX6 172 yX6_hasColumn ∈ tbG := gq2 (List.mem_of_getElem? (i := 177) (by decide +kernel)) (by decide +kernel)
theorem q2_179 : Cond.instanceMethod yX6_hasColumn ∈ tbG := gq2 (List.mem_of_getElem? (i := 179) (by decide +kernel)) (by decide +kernel)
theorem q2_180 : Cond.code yX6_hasColumn cX6_hasColumn 2 (some .boolean) ∈ tbG := gq2 (List.mem_of_getElem? (i := 180) rfl) rfl
theorem q2_181 : Cond.methodLink RX6 175 yX6_hasTooth ∈ tbG := gq2 (List.mem_of_getElem? (i := 181) (by decide +kernel)) (by decide +kernel)
theorem q2_183 : Cond.instanceMethod yX6_hasTooth ∈ tbG := gq2 (List.mem_of_getElem? (i := 183) (by decide +kernel)) (by decide +kernel)
theorem q2_184 : Cond.code yX6_hasTooth cX6_hasTooth 2 (some .boolean) ∈ tbG := gq2 (List.mem_of_getElem? (i := 184) rfl) rfl
theorem q2_185 : Cond.methodLink RX6 178 yX5_togglePin ∈ tbG := gq2 (List.mem_of_getElem? (i := 185) (by decide +kernel)) (by decide +kernel)
theorem q2_186 : Cond.instanceMethod yX5_togglePin ∈ tbG := gq2 (List.mem_of_getElem? (i := 186) (by decide +kernel)) (by decide +kernel)
theorem q2_187 : Cond.selects RX5 yX5_togglePin yX5_togglePin ∈ tbG := gq2 (List.mem_of_getElem? (i := 187) (by decide +kernel)) (by decide +kernel)
theorem q2_188 : Cond.code yX5_togglePin cX5_togglePin 3 none ∈ tbG := gq2 (List.mem_of_getElem? (i := 188) rfl) rfl
theorem q2_189 : Cond.methodLink RL 62 yX6_drum ∈ tbG := gq2 (List.mem_of_getElem? (i := 189) (by decide +kernel)) (by decide +kernel)
theorem q2_190 : Cond.instanceMethod yX6_drum ∈ tbG := gq2 (List.mem_of_getElem? (i := 190) (by decide +kernel)) (by decide +kernel)
theorem q2_191 : Cond.selects RX6 yX6_drum yX6_drum ∈ tbG := gq2 (List.mem_of_getElem? (i := 191) (by decide +kernel)) (by decide +kernel)
theorem q2_192 : Cond.code yX6_drum cX6_drum 3 (some .int) ∈ tbG := gq2 (List.mem_of_getElem? (i := 192) rfl) rfl
theorem q2_193 : Cond.methodLink RL 66 yX6_mend ∈ tbG := gq2 (List.mem_of_getElem? (i := 193) (by decide +kernel)) (by decide +kernel)
theorem q2_194 : Cond.instanceMethod yX6_mend ∈ tbG := gq2 (List.mem_of_getElem? (i := 194) (by decide +kernel)) (by decide +kernel)
theorem q2_195 : Cond.selects RX6 yX6_mend yX6_mend ∈ tbG := gq2 (List.mem_of_getElem? (i := 195) (by decide +kernel)) (by decide +kernel)
theorem q2_196 : Cond.code yX6_mend cX6_mend 3 (some .int) ∈ tbG := gq2 (List.mem_of_getElem? (i := 196) rfl) rfl
theorem q2_197 : Cond.methodLink RX6 187 yX5_isBroken ∈ tbG := gq2 (List.mem_of_getElem? (i := 197) (by decide +kernel)) (by decide +kernel)
theorem q2_198 : Cond.instanceMethod yX5_isBroken ∈ tbG := gq2 (List.mem_of_getElem? (i := 198) (by decide +kernel)) (by decide +kernel)
theorem q2_199 : Cond.selects RX5 yX5_isBroken yX5_isBroken ∈ tbG := gq2 (List.mem_of_getElem? (i := 199) (by decide +kernel)) (by decide +kernel)
theorem q2_200 : Cond.code yX5_isBroken cX5_isBroken 2 (some .boolean) ∈ tbG := gq2 (List.mem_of_getElem? (i := 200) rfl) rfl
theorem q2_201 : Cond.methodLink RX6 193 yX5_makeWhole ∈ tbG := gq2 (List.mem_of_getElem? (i := 201) (by decide +kernel)) (by decide +kernel)
theorem q2_202 : Cond.instanceMethod yX5_makeWhole ∈ tbG := gq2 (List.mem_of_getElem? (i := 202) (by decide +kernel)) (by decide +kernel)
theorem q2_203 : Cond.selects RX5 yX5_makeWhole yX5_makeWhole ∈ tbG := gq2 (List.mem_of_getElem? (i := 203) (by decide +kernel)) (by decide +kernel)
theorem q2_204 : Cond.code yX5_makeWhole cX5_makeWhole 2 none ∈ tbG := gq2 (List.mem_of_getElem? (i := 204) rfl) rfl
theorem q2_205 : Cond.methodLink RL 70 yX6_tooth ∈ tbG := gq2 (List.mem_of_getElem? (i := 205) (by decide +kernel)) (by decide +kernel)
theorem q2_206 : Cond.instanceMethod yX6_tooth ∈ tbG := gq2 (List.mem_of_getElem? (i := 206) (by decide +kernel)) (by decide +kernel)
theorem q2_207 : Cond.selects RX6 yX6_tooth yX6_tooth ∈ tbG := gq2 (List.mem_of_getElem? (i := 207) (by decide +kernel)) (by decide +kernel)
theorem q2_208 : Cond.code yX6_tooth cX6_tooth 3 (some .int) ∈ tbG := gq2 (List.mem_of_getElem? (i := 208) rfl) rfl
theorem q2_209 : Cond.methodLink RX6 202 yX5_columnsOf ∈ tbG := gq2 (List.mem_of_getElem? (i := 209) (by decide +kernel)) (by decide +kernel)
theorem q2_210 : Cond.instanceMethod yX5_columnsOf ∈ tbG := gq2 (List.mem_of_getElem? (i := 210) (by decide +kernel)) (by decide +kernel)
theorem q2_211 : Cond.selects RX5 yX5_columnsOf yX5_columnsOf ∈ tbG := gq2 (List.mem_of_getElem? (i := 211) (by decide +kernel)) (by decide +kernel)
theorem q2_212 : Cond.code yX5_columnsOf cX5_columnsOf 4 (some .int) ∈ tbG := gq2 (List.mem_of_getElem? (i := 212) rfl) rfl
theorem q2_213 : Cond.methodLink RL 74 yX6_pins ∈ tbG := gq2 (List.mem_of_getElem? (i := 213) (by decide +kernel)) (by decide +kernel)
theorem q2_214 : Cond.instanceMethod yX6_pins ∈ tbG := gq2 (List.mem_of_getElem? (i := 214) (by decide +kernel)) (by decide +kernel)
theorem q2_215 : Cond.selects RX6 yX6_pins yX6_pins ∈ tbG := gq2 (List.mem_of_getElem? (i := 215) (by decide +kernel)) (by decide +kernel)
theorem q2_216 : Cond.code yX6_pins cX6_pins 2 (some .int) ∈ tbG := gq2 (List.mem_of_getElem? (i := 216) rfl) rfl
theorem q2_217 : Cond.methodLink RL 78 yX6_stand ∈ tbG := gq2 (List.mem_of_getElem? (i := 217) (by decide +kernel)) (by decide +kernel)
theorem q2_218 : Cond.instanceMethod yX6_stand ∈ tbG := gq2 (List.mem_of_getElem? (i := 218) (by decide +kernel)) (by decide +kernel)
theorem q2_219 : Cond.selects RX6 yX6_stand yX6_stand ∈ tbG := gq2 (List.mem_of_getElem? (i := 219) (by decide +kernel)) (by decide +kernel)
theorem q2_220 : Cond.code yX6_stand cX6_stand 2 (some .int) ∈ tbG := gq2 (List.mem_of_getElem? (i := 220) rfl) rfl
theorem q2_221 : Cond.methodLink RX6 208 yX5_ringing ∈ tbG := gq2 (List.mem_of_getElem? (i := 221) (by decide +kernel)) (by decide +kernel)
theorem q2_222 : Cond.instanceMethod yX5_ringing ∈ tbG := gq2 (List.mem_of_getElem? (i := 222) (by decide +kernel)) (by decide +kernel)
theorem q2_223 : Cond.selects RX5 yX5_ringing yX5_ringing ∈ tbG := gq2 (List.mem_of_getElem? (i := 223) (by decide +kernel)) (by decide +kernel)
theorem q2_224 : Cond.code yX5_ringing cX5_ringing 3 (some .int) ∈ tbG := gq2 (List.mem_of_getElem? (i := 224) rfl) rfl
theorem q2_225 : Cond.methodLink RL 82 yX6_ahead ∈ tbG := gq2 (List.mem_of_getElem? (i := 225) (by decide +kernel)) (by decide +kernel)
theorem q2_226 : Cond.instanceMethod yX6_ahead ∈ tbG := gq2 (List.mem_of_getElem? (i := 226) (by decide +kernel)) (by decide +kernel)
theorem q2_227 : Cond.selects RX6 yX6_ahead yX6_ahead ∈ tbG := gq2 (List.mem_of_getElem? (i := 227) (by decide +kernel)) (by decide +kernel)
theorem q2_228 : Cond.code yX6_ahead cX6_ahead 4 (some .int) ∈ tbG := gq2 (List.mem_of_getElem? (i := 228) rfl) rfl
theorem q2_229 : Cond.methodLink RX6 214 yX3_toothAhead ∈ tbG := gq2 (List.mem_of_getElem? (i := 229) (by decide +kernel)) (by decide +kernel)
theorem q2_230 : Cond.instanceMethod yX3_toothAhead ∈ tbG := gq2 (List.mem_of_getElem? (i := 230) (by decide +kernel)) (by decide +kernel)
theorem q2_231 : Cond.selects RX3 yX3_toothAhead yX3_toothAhead ∈ tbG := gq2 (List.mem_of_getElem? (i := 231) (by decide +kernel)) (by decide +kernel)
theorem q2_232 : Cond.code yX3_toothAhead cX3_toothAhead 4 (some .int) ∈ tbG := gq2 (List.mem_of_getElem? (i := 232) rfl) rfl
theorem q2_233 : Cond.methodLink RX3 33 yX3_tryAhead ∈ tbG := gq2 (List.mem_of_getElem? (i := 233) (by decide +kernel)) (by decide +kernel)
theorem q2_235 : Cond.instanceMethod yX3_tryAhead ∈ tbG := gq2 (List.mem_of_getElem? (i := 235) (by decide +kernel)) (by decide +kernel)
theorem q2_236 : Cond.code yX3_tryAhead cX3_tryAhead 2 none ∈ tbG := gq2 (List.mem_of_getElem? (i := 236) rfl) rfl
theorem q2_237 : Cond.methodLink RX3 25 yX5_takeFrom ∈ tbG := gq2 (List.mem_of_getElem? (i := 237) (by decide +kernel)) (by decide +kernel)
theorem q2_238 : Cond.methodLink RX3 29 yX5_turnTimes ∈ tbG := gq2 (List.mem_of_getElem? (i := 238) (by decide +kernel)) (by decide +kernel)
theorem q2_239 : Cond.instanceMethod yX5_turnTimes ∈ tbG := gq2 (List.mem_of_getElem? (i := 239) (by decide +kernel)) (by decide +kernel)
theorem q3_0 : Cond.selects RX5 yX5_turnTimes yX5_turnTimes ∈ tbG := gq3 (List.mem_of_getElem? (i := 0) (by decide +kernel)) (by decide +kernel)
theorem q3_1 : Cond.code yX5_turnTimes cX5_turnTimes 3 none ∈ tbG := gq3 (List.mem_of_getElem? (i := 1) rfl) rfl
theorem q3_2 : Cond.methodLink RX5 82 yX5_turn ∈ tbG := gq3 (List.mem_of_getElem? (i := 2) (by decide +kernel)) (by decide +kernel)
theorem q3_3 : Cond.methodLink RX3 43 yX5_isBroken ∈ tbG := gq3 (List.mem_of_getElem? (i := 3) (by decide +kernel)) (by decide +kernel)
theorem q3_4 : Cond.methodLink RL 86 yX6_heard ∈ tbG := gq3 (List.mem_of_getElem? (i := 4) (by decide +kernel)) (by decide +kernel)
theorem q3_5 : Cond.instanceMethod yX6_heard ∈ tbG := gq3 (List.mem_of_getElem? (i := 5) (by decide +kernel)) (by decide +kernel)
theorem q3_6 : Cond.selects RX6 yX6_heard yX6_heard ∈ tbG := gq3 (List.mem_of_getElem? (i := 6) (by decide +kernel)) (by decide +kernel)
theorem q3_7 : Cond.code yX6_heard cX6_heard 3 (some .int) ∈ tbG := gq3 (List.mem_of_getElem? (i := 7) rfl) rfl
theorem q3_8 : Cond.methodLink RX6 218 yX3_boxAhead ∈ tbG := gq3 (List.mem_of_getElem? (i := 8) (by decide +kernel)) (by decide +kernel)
theorem q3_9 : Cond.instanceMethod yX3_boxAhead ∈ tbG := gq3 (List.mem_of_getElem? (i := 9) (by decide +kernel)) (by decide +kernel)
theorem q3_10 : Cond.selects RX3 yX3_boxAhead yX3_boxAhead ∈ tbG := gq3 (List.mem_of_getElem? (i := 10) (by decide +kernel)) (by decide +kernel)
theorem q3_11 : Cond.code yX3_boxAhead cX3_boxAhead 3 (some .int) ∈ tbG := gq3 (List.mem_of_getElem? (i := 11) rfl) rfl
theorem q3_12 : Cond.methodLink RX3 47 yX5_loud ∈ tbG := gq3 (List.mem_of_getElem? (i := 12) (by decide +kernel)) (by decide +kernel)
theorem q3_13 : Cond.methodLink RX3 51 yX5_ringing ∈ tbG := gq3 (List.mem_of_getElem? (i := 13) (by decide +kernel)) (by decide +kernel)
theorem q3_14 : Cond.methodLink RL 90 yX6_when ∈ tbG := gq3 (List.mem_of_getElem? (i := 14) (by decide +kernel)) (by decide +kernel)
theorem q3_15 : Cond.instanceMethod yX6_when ∈ tbG := gq3 (List.mem_of_getElem? (i := 15) (by decide +kernel)) (by decide +kernel)
theorem q3_16 : Cond.selects RX6 yX6_when yX6_when ∈ tbG := gq3 (List.mem_of_getElem? (i := 16) (by decide +kernel)) (by decide +kernel)
theorem q3_17 : Cond.code yX6_when cX6_when 3 (some .int) ∈ tbG := gq3 (List.mem_of_getElem? (i := 17) rfl) rfl
theorem q3_18 : Cond.methodLink RX6 221 yX3_firstTick ∈ tbG := gq3 (List.mem_of_getElem? (i := 18) (by decide +kernel)) (by decide +kernel)
theorem q3_19 : Cond.instanceMethod yX3_firstTick ∈ tbG := gq3 (List.mem_of_getElem? (i := 19) (by decide +kernel)) (by decide +kernel)
theorem q3_20 : Cond.selects RX3 yX3_firstTick yX3_firstTick ∈ tbG := gq3 (List.mem_of_getElem? (i := 20) (by decide +kernel)) (by decide +kernel)
theorem q3_21 : Cond.code yX3_firstTick cX3_firstTick 5 (some .int) ∈ tbG := gq3 (List.mem_of_getElem? (i := 21) rfl) rfl
theorem q3_22 : Cond.methodLink RX3 61 yX5_turn ∈ tbG := gq3 (List.mem_of_getElem? (i := 22) (by decide +kernel)) (by decide +kernel)
theorem q3_23 : Cond.constant RX3 64 (-1000000 : Int32) ∈ tbG := gq3 (List.mem_of_getElem? (i := 23) (by decide +kernel)) (by decide +kernel)
theorem q3_24 : Cond.methodLink RL 94 yX6_stops ∈ tbG := gq3 (List.mem_of_getElem? (i := 24) (by decide +kernel)) (by decide +kernel)
theorem q3_25 : Cond.instanceMethod yX6_stops ∈ tbG := gq3 (List.mem_of_getElem? (i := 25) (by decide +kernel)) (by decide +kernel)
theorem q3_26 : Cond.selects RX6 yX6_stops yX6_stops ∈ tbG := gq3 (List.mem_of_getElem? (i := 26) (by decide +kernel)) (by decide +kernel)
theorem q3_27 : Cond.code yX6_stops cX6_stops 1 (some .int) ∈ tbG := gq3 (List.mem_of_getElem? (i := 27) rfl) rfl
theorem q3_28 : Cond.methodLink RX6 224 yX3_firstStop ∈ tbG := gq3 (List.mem_of_getElem? (i := 28) (by decide +kernel)) (by decide +kernel)
theorem q3_29 : Cond.instanceMethod yX3_firstStop ∈ tbG := gq3 (List.mem_of_getElem? (i := 29) (by decide +kernel)) (by decide +kernel)
theorem q3_30 : Cond.selects RX3 yX3_firstStop yX3_firstStop ∈ tbG := gq3 (List.mem_of_getElem? (i := 30) (by decide +kernel)) (by decide +kernel)
theorem q3_31 : Cond.code yX3_firstStop cX3_firstStop 2 (some .int) ∈ tbG := gq3 (List.mem_of_getElem? (i := 31) rfl) rfl
theorem q3_32 : Cond.methodLink RL 98 yX6_bestPin ∈ tbG := gq3 (List.mem_of_getElem? (i := 32) (by decide +kernel)) (by decide +kernel)
theorem q3_33 : Cond.instanceMethod yX6_bestPin ∈ tbG := gq3 (List.mem_of_getElem? (i := 33) (by decide +kernel)) (by decide +kernel)
theorem q3_34 : Cond.selects RX6 yX6_bestPin yX6_bestPin ∈ tbG := gq3 (List.mem_of_getElem? (i := 34) (by decide +kernel)) (by decide +kernel)
theorem q3_35 : Cond.code yX6_bestPin cX6_bestPin 3 (some .int) ∈ tbG := gq3 (List.mem_of_getElem? (i := 35) rfl) rfl
theorem q3_36 : Cond.methodLink RX6 227 yX3_loudestPin ∈ tbG := gq3 (List.mem_of_getElem? (i := 36) (by decide +kernel)) (by decide +kernel)
theorem q3_37 : Cond.instanceMethod yX3_loudestPin ∈ tbG := gq3 (List.mem_of_getElem? (i := 37) (by decide +kernel)) (by decide +kernel)
theorem q3_38 : Cond.selects RX3 yX3_loudestPin yX3_loudestPin ∈ tbG := gq3 (List.mem_of_getElem? (i := 38) (by decide +kernel)) (by decide +kernel)
theorem q3_39 : Cond.code yX3_loudestPin cX3_loudestPin 8 (some .int) ∈ tbG := gq3 (List.mem_of_getElem? (i := 39) rfl) rfl
theorem q3_40 : Cond.methodLink RX3 71 yX5_togglePin ∈ tbG := gq3 (List.mem_of_getElem? (i := 40) (by decide +kernel)) (by decide +kernel)
theorem q3_41 : Cond.methodLink RX3 75 yX5_loudOver ∈ tbG := gq3 (List.mem_of_getElem? (i := 41) (by decide +kernel)) (by decide +kernel)
theorem q3_42 : Cond.instanceMethod yX5_loudOver ∈ tbG := gq3 (List.mem_of_getElem? (i := 42) (by decide +kernel)) (by decide +kernel)
theorem q3_43 : Cond.selects RX5 yX5_loudOver yX5_loudOver ∈ tbG := gq3 (List.mem_of_getElem? (i := 43) (by decide +kernel)) (by decide +kernel)
theorem q3_44 : Cond.code yX5_loudOver cX5_loudOver 4 (some .int) ∈ tbG := gq3 (List.mem_of_getElem? (i := 44) rfl) rfl
theorem q3_45 : Cond.methodLink RX5 85 yX5_loud ∈ tbG := gq3 (List.mem_of_getElem? (i := 45) (by decide +kernel)) (by decide +kernel)
theorem q3_46 : Cond.methodLink RL 102 yX6_begin ∈ tbG := gq3 (List.mem_of_getElem? (i := 46) (by decide +kernel)) (by decide +kernel)
theorem q3_47 : Cond.instanceMethod yX6_begin ∈ tbG := gq3 (List.mem_of_getElem? (i := 47) (by decide +kernel)) (by decide +kernel)
theorem q3_48 : Cond.selects RX6 yX6_begin yX6_begin ∈ tbG := gq3 (List.mem_of_getElem? (i := 48) (by decide +kernel)) (by decide +kernel)
theorem q3_49 : Cond.code yX6_begin cX6_begin 3 (some .int) ∈ tbG := gq3 (List.mem_of_getElem? (i := 49) rfl) rfl
theorem q3_50 : Cond.methodLink RX6 230 yX3_loudestColumn ∈ tbG := gq3 (List.mem_of_getElem? (i := 50) (by decide +kernel)) (by decide +kernel)
theorem q3_51 : Cond.instanceMethod yX3_loudestColumn ∈ tbG := gq3 (List.mem_of_getElem? (i := 51) (by decide +kernel)) (by decide +kernel)
theorem q3_52 : Cond.selects RX3 yX3_loudestColumn yX3_loudestColumn ∈ tbG := gq3 (List.mem_of_getElem? (i := 52) (by decide +kernel)) (by decide +kernel)
theorem q3_53 : Cond.code yX3_loudestColumn cX3_loudestColumn 7 (some .int) ∈ tbG := gq3 (List.mem_of_getElem? (i := 53) rfl) rfl
theorem q3_54 : Cond.methodLink RL 106 yX6_least ∈ tbG := gq3 (List.mem_of_getElem? (i := 54) (by decide +kernel)) (by decide +kernel)
theorem q3_55 : Cond.instanceMethod yX6_least ∈ tbG := gq3 (List.mem_of_getElem? (i := 55) (by decide +kernel)) (by decide +kernel)
theorem q3_56 : Cond.selects RX6 yX6_least yX6_least ∈ tbG := gq3 (List.mem_of_getElem? (i := 56) (by decide +kernel)) (by decide +kernel)
theorem q3_57 : Cond.code yX6_least cX6_least 2 (some .int) ∈ tbG := gq3 (List.mem_of_getElem? (i := 57) rfl) rfl
theorem q3_58 : Cond.methodLink RX6 233 yX3_leastSpring ∈ tbG := gq3 (List.mem_of_getElem? (i := 58) (by decide +kernel)) (by decide +kernel)
theorem q3_59 : Cond.instanceMethod yX3_leastSpring ∈ tbG := gq3 (List.mem_of_getElem? (i := 59) (by decide +kernel)) (by decide +kernel)
theorem q3_60 : Cond.selects RX3 yX3_leastSpring yX3_leastSpring ∈ tbG := gq3 (List.mem_of_getElem? (i := 60) (by decide +kernel)) (by decide +kernel)
theorem q3_61 : Cond.code yX3_leastSpring cX3_leastSpring 4 (some .int) ∈ tbG := gq3 (List.mem_of_getElem? (i := 61) rfl) rfl
theorem q3_62 : Cond.methodLink RL 110 yX6_tune ∈ tbG := gq3 (List.mem_of_getElem? (i := 62) (by decide +kernel)) (by decide +kernel)
theorem q3_63 : Cond.instanceMethod yX6_tune ∈ tbG := gq3 (List.mem_of_getElem? (i := 63) (by decide +kernel)) (by decide +kernel)
theorem q3_64 : Cond.selects RX6 yX6_tune yX6_tune ∈ tbG := gq3 (List.mem_of_getElem? (i := 64) (by decide +kernel)) (by decide +kernel)
theorem q3_65 : Cond.code yX6_tune cX6_tune 5 (some .int) ∈ tbG := gq3 (List.mem_of_getElem? (i := 65) rfl) rfl
theorem q3_66 : Cond.methodLink RX6 236 yX3_columnsOfTune ∈ tbG := gq3 (List.mem_of_getElem? (i := 66) (by decide +kernel)) (by decide +kernel)
theorem q3_67 : Cond.instanceMethod yX3_columnsOfTune ∈ tbG := gq3 (List.mem_of_getElem? (i := 67) (by decide +kernel)) (by decide +kernel)
theorem q3_68 : Cond.selects RX3 yX3_columnsOfTune yX3_columnsOfTune ∈ tbG := gq3 (List.mem_of_getElem? (i := 68) (by decide +kernel)) (by decide +kernel)
theorem q3_69 : Cond.code yX3_columnsOfTune cX3_columnsOfTune 6 (some .int) ∈ tbG := gq3 (List.mem_of_getElem? (i := 69) rfl) rfl
theorem q3_70 : Cond.methodLink RX3 79 yX3_standsFrom ∈ tbG := gq3 (List.mem_of_getElem? (i := 70) (by decide +kernel)) (by decide +kernel)
theorem q3_72 : Cond.instanceMethod yX3_standsFrom ∈ tbG := gq3 (List.mem_of_getElem? (i := 72) (by decide +kernel)) (by decide +kernel)
theorem q3_73 : Cond.code yX3_standsFrom cX3_standsFrom 8 (some .boolean) ∈ tbG := gq3 (List.mem_of_getElem? (i := 73) rfl) rfl
theorem q3_74 : Cond.methodLink RL 114 yX6_sets ∈ tbG := gq3 (List.mem_of_getElem? (i := 74) (by decide +kernel)) (by decide +kernel)
theorem q3_75 : Cond.instanceMethod yX6_sets ∈ tbG := gq3 (List.mem_of_getElem? (i := 75) (by decide +kernel)) (by decide +kernel)
theorem q3_76 : Cond.selects RX6 yX6_sets yX6_sets ∈ tbG := gq3 (List.mem_of_getElem? (i := 76) (by decide +kernel)) (by decide +kernel)
theorem q3_77 : Cond.code yX6_sets cX6_sets 3 (some .int) ∈ tbG := gq3 (List.mem_of_getElem? (i := 77) rfl) rfl
theorem q3_78 : Cond.methodLink RX6 239 yX3_setsThatRing ∈ tbG := gq3 (List.mem_of_getElem? (i := 78) (by decide +kernel)) (by decide +kernel)
theorem q3_79 : Cond.instanceMethod yX3_setsThatRing ∈ tbG := gq3 (List.mem_of_getElem? (i := 79) (by decide +kernel)) (by decide +kernel)
theorem q3_80 : Cond.selects RX3 yX3_setsThatRing yX3_setsThatRing ∈ tbG := gq3 (List.mem_of_getElem? (i := 80) (by decide +kernel)) (by decide +kernel)
theorem q3_81 : Cond.code yX3_setsThatRing cX3_setsThatRing 8 (some .int) ∈ tbG := gq3 (List.mem_of_getElem? (i := 81) rfl) rfl
theorem q3_82 : Cond.methodLink RX3 91 yX3_loudOf ∈ tbG := gq3 (List.mem_of_getElem? (i := 82) (by decide +kernel)) (by decide +kernel)
theorem q3_84 : Cond.instanceMethod yX3_loudOf ∈ tbG := gq3 (List.mem_of_getElem? (i := 84) (by decide +kernel)) (by decide +kernel)
theorem q3_85 : Cond.code yX3_loudOf cX3_loudOf 4 (some .int) ∈ tbG := gq3 (List.mem_of_getElem? (i := 85) rfl) rfl
theorem q3_86 : Cond.methodLink RL 118 yX6_share ∈ tbG := gq3 (List.mem_of_getElem? (i := 86) (by decide +kernel)) (by decide +kernel)
theorem q3_87 : Cond.instanceMethod yX6_share ∈ tbG := gq3 (List.mem_of_getElem? (i := 87) (by decide +kernel)) (by decide +kernel)
theorem q3_88 : Cond.selects RX6 yX6_share yX6_share ∈ tbG := gq3 (List.mem_of_getElem? (i := 88) (by decide +kernel)) (by decide +kernel)
theorem q3_89 : Cond.code yX6_share cX6_share 3 (some .int) ∈ tbG := gq3 (List.mem_of_getElem? (i := 89) rfl) rfl
theorem q3_90 : Cond.methodLink RX6 242 yX3_oilFor ∈ tbG := gq3 (List.mem_of_getElem? (i := 90) (by decide +kernel)) (by decide +kernel)
theorem q3_91 : Cond.instanceMethod yX3_oilFor ∈ tbG := gq3 (List.mem_of_getElem? (i := 91) (by decide +kernel)) (by decide +kernel)
theorem q3_92 : Cond.selects RX3 yX3_oilFor yX3_oilFor ∈ tbG := gq3 (List.mem_of_getElem? (i := 92) (by decide +kernel)) (by decide +kernel)
theorem q3_93 : Cond.code yX3_oilFor cX3_oilFor 7 (some .int) ∈ tbG := gq3 (List.mem_of_getElem? (i := 93) rfl) rfl
theorem q3_94 : Cond.methodLink RX3 94 yX3_wear ∈ tbG := gq3 (List.mem_of_getElem? (i := 94) (by decide +kernel)) (by decide +kernel)
theorem q3_96 : Cond.instanceMethod yX3_wear ∈ tbG := gq3 (List.mem_of_getElem? (i := 96) (by decide +kernel)) (by decide +kernel)
theorem q3_97 : Cond.code yX3_wear cX3_wear 2 (some .int) ∈ tbG := gq3 (List.mem_of_getElem? (i := 97) rfl) rfl
theorem q3_98 : Cond.methodLink RL 122 yX6_byTurns ∈ tbG := gq3 (List.mem_of_getElem? (i := 98) (by decide +kernel)) (by decide +kernel)
theorem q3_99 : Cond.instanceMethod yX6_byTurns ∈ tbG := gq3 (List.mem_of_getElem? (i := 99) (by decide +kernel)) (by decide +kernel)
theorem q3_100 : Cond.selects RX6 yX6_byTurns yX6_byTurns ∈ tbG := gq3 (List.mem_of_getElem? (i := 100) (by decide +kernel)) (by decide +kernel)
theorem q3_101 : Cond.code yX6_byTurns cX6_byTurns 3 (some .int) ∈ tbG := gq3 (List.mem_of_getElem? (i := 101) rfl) rfl
theorem q3_102 : Cond.methodLink RX6 245 yX3_outcomeOfTurns ∈ tbG := gq3 (List.mem_of_getElem? (i := 102) (by decide +kernel)) (by decide +kernel)
theorem q3_103 : Cond.instanceMethod yX3_outcomeOfTurns ∈ tbG := gq3 (List.mem_of_getElem? (i := 103) (by decide +kernel)) (by decide +kernel)
theorem q3_104 : Cond.selects RX3 yX3_outcomeOfTurns yX3_outcomeOfTurns ∈ tbG := gq3 (List.mem_of_getElem? (i := 104) (by decide +kernel)) (by decide +kernel)
theorem q3_105 : Cond.code yX3_outcomeOfTurns cX3_outcomeOfTurns 3 (some .int) ∈ tbG := gq3 (List.mem_of_getElem? (i := 105) rfl) rfl
theorem q3_106 : Cond.methodLink RX3 97 yX3_outcome ∈ tbG := gq3 (List.mem_of_getElem? (i := 106) (by decide +kernel)) (by decide +kernel)
theorem q3_108 : Cond.instanceMethod yX3_outcome ∈ tbG := gq3 (List.mem_of_getElem? (i := 108) (by decide +kernel)) (by decide +kernel)
theorem q3_109 : Cond.code yX3_outcome cX3_outcome 7 (some .int) ∈ tbG := gq3 (List.mem_of_getElem? (i := 109) rfl) rfl
theorem q3_110 : Cond.methodLink RX3 101 yX3_loudBehindTurns ∈ tbG := gq3 (List.mem_of_getElem? (i := 110) (by decide +kernel)) (by decide +kernel)
theorem q3_112 : Cond.instanceMethod yX3_loudBehindTurns ∈ tbG := gq3 (List.mem_of_getElem? (i := 112) (by decide +kernel)) (by decide +kernel)
theorem q3_113 : Cond.code yX3_loudBehindTurns cX3_loudBehindTurns 4 (some .int) ∈ tbG := gq3 (List.mem_of_getElem? (i := 113) rfl) rfl
theorem q3_114 : Cond.methodLink RX3 114 yX5_windBy ∈ tbG := gq3 (List.mem_of_getElem? (i := 114) (by decide +kernel)) (by decide +kernel)
theorem q3_115 : Cond.methodLink RX3 117 yX5_columnBehind ∈ tbG := gq3 (List.mem_of_getElem? (i := 115) (by decide +kernel)) (by decide +kernel)
theorem q3_116 : Cond.methodLink RX3 105 Lib.Math.max.name ∈ tbG := gq3 (List.mem_of_getElem? (i := 116) (by decide +kernel)) (by decide +kernel)
theorem q3_117 : Cond.methodLink RX3 111 Lib.Math.min.name ∈ tbG := gq3 (List.mem_of_getElem? (i := 117) (by decide +kernel)) (by decide +kernel)
theorem q3_118 : Cond.methodLink RL 126 yX6_who ∈ tbG := gq3 (List.mem_of_getElem? (i := 118) (by decide +kernel)) (by decide +kernel)
theorem q3_119 : Cond.instanceMethod yX6_who ∈ tbG := gq3 (List.mem_of_getElem? (i := 119) (by decide +kernel)) (by decide +kernel)
theorem q3_120 : Cond.selects RX6 yX6_who yX6_who ∈ tbG := gq3 (List.mem_of_getElem? (i := 120) (by decide +kernel)) (by decide +kernel)
theorem q3_121 : Cond.code yX6_who cX6_who 7 (some .int) ∈ tbG := gq3 (List.mem_of_getElem? (i := 121) rfl) rfl
theorem q3_122 : Cond.methodLink RX6 248 yX3_whatFits ∈ tbG := gq3 (List.mem_of_getElem? (i := 122) (by decide +kernel)) (by decide +kernel)
theorem q3_123 : Cond.instanceMethod yX3_whatFits ∈ tbG := gq3 (List.mem_of_getElem? (i := 123) (by decide +kernel)) (by decide +kernel)
theorem q3_124 : Cond.selects RX3 yX3_whatFits yX3_whatFits ∈ tbG := gq3 (List.mem_of_getElem? (i := 124) (by decide +kernel)) (by decide +kernel)
theorem q3_125 : Cond.code yX3_whatFits cX3_whatFits 6 (some .int) ∈ tbG := gq3 (List.mem_of_getElem? (i := 125) rfl) rfl
theorem q3_126 : Cond.methodLink RX3 120 yX3_kindsThatFit ∈ tbG := gq3 (List.mem_of_getElem? (i := 126) (by decide +kernel)) (by decide +kernel)
theorem q3_128 : Cond.instanceMethod yX3_kindsThatFit ∈ tbG := gq3 (List.mem_of_getElem? (i := 128) (by decide +kernel)) (by decide +kernel)
theorem q3_129 : Cond.code yX3_kindsThatFit cX3_kindsThatFit 7 (some .int) ∈ tbG := gq3 (List.mem_of_getElem? (i := 129) rfl) rfl
theorem q3_130 : Cond.methodLink RX3 137 yX3_trialIsHeardAs ∈ tbG := gq3 (List.mem_of_getElem? (i := 130) (by decide +kernel)) (by decide +kernel)
theorem q3_132 : Cond.instanceMethod yX3_trialIsHeardAs ∈ tbG := gq3 (List.mem_of_getElem? (i := 132) (by decide +kernel)) (by decide +kernel)
theorem q3_133 : Cond.code yX3_trialIsHeardAs cX3_trialIsHeardAs 5 (some .boolean) ∈ tbG := gq3 (List.mem_of_getElem? (i := 133) rfl) rfl
theorem q3_134 : Cond.methodLink RX3 124 yX3_tuningsThatFit ∈ tbG := gq3 (List.mem_of_getElem? (i := 134) (by decide +kernel)) (by decide +kernel)
theorem q3_136 : Cond.instanceMethod yX3_tuningsThatFit ∈ tbG := gq3 (List.mem_of_getElem? (i := 136) (by decide +kernel)) (by decide +kernel)
theorem q3_137 : Cond.code yX3_tuningsThatFit cX3_tuningsThatFit 7 (some .int) ∈ tbG := gq3 (List.mem_of_getElem? (i := 137) rfl) rfl
theorem q3_138 : Cond.methodLink RX3 127 yX3_columnsThatFit ∈ tbG := gq3 (List.mem_of_getElem? (i := 138) (by decide +kernel)) (by decide +kernel)
theorem q3_140 : Cond.instanceMethod yX3_columnsThatFit ∈ tbG := gq3 (List.mem_of_getElem? (i := 140) (by decide +kernel)) (by decide +kernel)
theorem q3_141 : Cond.code yX3_columnsThatFit cX3_columnsThatFit 6 (some .int) ∈ tbG := gq3 (List.mem_of_getElem? (i := 141) rfl) rfl
theorem q3_142 : Cond.methodLink RX3 131 yX3_springsThatFit ∈ tbG := gq3 (List.mem_of_getElem? (i := 142) (by decide +kernel)) (by decide +kernel)
theorem q3_144 : Cond.instanceMethod yX3_springsThatFit ∈ tbG := gq3 (List.mem_of_getElem? (i := 144) (by decide +kernel)) (by decide +kernel)
theorem q3_145 : Cond.code yX3_springsThatFit cX3_springsThatFit 8 (some .int) ∈ tbG := gq3 (List.mem_of_getElem? (i := 145) rfl) rfl
theorem q3_146 : Cond.methodLink RL 130 yX6_lost ∈ tbG := gq3 (List.mem_of_getElem? (i := 146) (by decide +kernel)) (by decide +kernel)
theorem q3_147 : Cond.instanceMethod yX6_lost ∈ tbG := gq3 (List.mem_of_getElem? (i := 147) (by decide +kernel)) (by decide +kernel)
theorem q3_148 : Cond.selects RX6 yX6_lost yX6_lost ∈ tbG := gq3 (List.mem_of_getElem? (i := 148) (by decide +kernel)) (by decide +kernel)
theorem q3_149 : Cond.code yX6_lost cX6_lost 5 (some .long) ∈ tbG := gq3 (List.mem_of_getElem? (i := 149) rfl) rfl
theorem q3_150 : Cond.constantLong RX6 252 (-1000001 : Int64) ∈ tbG := gq3 (List.mem_of_getElem? (i := 150) (by decide +kernel)) (by decide +kernel)
theorem q3_151 : Cond.methodLink RX6 254 yX3_chanceOfRinging ∈ tbG := gq3 (List.mem_of_getElem? (i := 151) (by decide +kernel)) (by decide +kernel)
theorem q3_152 : Cond.instanceMethod yX3_chanceOfRinging ∈ tbG := gq3 (List.mem_of_getElem? (i := 152) (by decide +kernel)) (by decide +kernel)
theorem q3_153 : Cond.selects RX3 yX3_chanceOfRinging yX3_chanceOfRinging ∈ tbG := gq3 (List.mem_of_getElem? (i := 153) (by decide +kernel)) (by decide +kernel)
theorem q3_154 : Cond.code yX3_chanceOfRinging cX3_chanceOfRinging 12 (some .long) ∈ tbG := gq3 (List.mem_of_getElem? (i := 154) rfl) rfl
theorem q3_155 : Cond.methodLink RX3 144 yX5_columnsOf ∈ tbG := gq3 (List.mem_of_getElem? (i := 155) (by decide +kernel)) (by decide +kernel)
theorem q3_156 : Cond.methodLink RX3 147 yX3_weightOfRinging ∈ tbG := gq3 (List.mem_of_getElem? (i := 156) (by decide +kernel)) (by decide +kernel)
theorem q3_158 : Cond.instanceMethod yX3_weightOfRinging ∈ tbG := gq3 (List.mem_of_getElem? (i := 158) (by decide +kernel)) (by decide +kernel)
theorem q3_159 : Cond.code yX3_weightOfRinging cX3_weightOfRinging 13 (some .long) ∈ tbG := gq3 (List.mem_of_getElem? (i := 159) rfl) rfl
theorem q3_160 : Cond.methodLink RX3 164 yX5_comesTo ∈ tbG := gq3 (List.mem_of_getElem? (i := 160) (by decide +kernel)) (by decide +kernel)
theorem q3_161 : Cond.instanceMethod yX5_comesTo ∈ tbG := gq3 (List.mem_of_getElem? (i := 161) (by decide +kernel)) (by decide +kernel)
theorem q3_162 : Cond.selects RX5 yX5_comesTo yX5_comesTo ∈ tbG := gq3 (List.mem_of_getElem? (i := 162) (by decide +kernel)) (by decide +kernel)
theorem q3_163 : Cond.code yX5_comesTo cX5_comesTo 2 (some .boolean) ∈ tbG := gq3 (List.mem_of_getElem? (i := 163) rfl) rfl
theorem q3_164 : Cond.methodLink RX3 151 yJ6_bitCount_0f7a4 ∈ tbG := gq3 (List.mem_of_getElem? (i := 164) (by decide +kernel)) (by decide +kernel)
theorem q3_165 : Cond.static yJ6_bitCount_0f7a4 ∈ tbG := gq3 (List.mem_of_getElem? (i := 165) (by decide +kernel)) (by decide +kernel)
theorem q3_166 : Cond.code yJ6_bitCount_0f7a4 cJ6_bitCount_0f7a4 1 (some .int) ∈ tbG := gq3 (List.mem_of_getElem? (i := 166) rfl) rfl
theorem q3_167 : Cond.constant RJ6 265 (1431655765 : Int32) ∈ tbG := gq3 (List.mem_of_getElem? (i := 167) (by decide +kernel)) (by decide +kernel)
theorem q3_168 : Cond.constant RJ6 266 (858993459 : Int32) ∈ tbG := gq3 (List.mem_of_getElem? (i := 168) (by decide +kernel)) (by decide +kernel)
theorem q3_169 : Cond.constant RJ6 267 (252645135 : Int32) ∈ tbG := gq3 (List.mem_of_getElem? (i := 169) (by decide +kernel)) (by decide +kernel)
theorem q3_170 : Cond.methodLink RX3 156 yX3_tenToThe ∈ tbG := gq3 (List.mem_of_getElem? (i := 170) (by decide +kernel)) (by decide +kernel)
theorem q3_171 : Cond.static yX3_tenToThe ∈ tbG := gq3 (List.mem_of_getElem? (i := 171) (by decide +kernel)) (by decide +kernel)
theorem q3_172 : Cond.code yX3_tenToThe cX3_tenToThe 4 (some .long) ∈ tbG := gq3 (List.mem_of_getElem? (i := 172) rfl) rfl
theorem q3_173 : Cond.constantLong RX3 167 (10 : Int64) ∈ tbG := gq3 (List.mem_of_getElem? (i := 173) (by decide +kernel)) (by decide +kernel)
theorem q3_174 : Cond.methodLink RX3 160 yX3_commonDivisor ∈ tbG := gq3 (List.mem_of_getElem? (i := 174) (by decide +kernel)) (by decide +kernel)
theorem q3_175 : Cond.static yX3_commonDivisor ∈ tbG := gq3 (List.mem_of_getElem? (i := 175) (by decide +kernel)) (by decide +kernel)
theorem q3_176 : Cond.code yX3_commonDivisor cX3_commonDivisor 11 (some .long) ∈ tbG := gq3 (List.mem_of_getElem? (i := 176) rfl) rfl
theorem q3_177 : Cond.methodLink RL 135 yX6_drawn ∈ tbG := gq3 (List.mem_of_getElem? (i := 177) (by decide +kernel)) (by decide +kernel)
theorem q3_178 : Cond.instanceMethod yX6_drawn ∈ tbG := gq3 (List.mem_of_getElem? (i := 178) (by decide +kernel)) (by decide +kernel)
theorem q3_179 : Cond.selects RX6 yX6_drawn yX6_drawn ∈ tbG := gq3 (List.mem_of_getElem? (i := 179) (by decide +kernel)) (by decide +kernel)
theorem q3_180 : Cond.code yX6_drawn cX6_drawn 4 (some .int) ∈ tbG := gq3 (List.mem_of_getElem? (i := 180) rfl) rfl
theorem q3_181 : Cond.constant RX6 258 (999999 : Int32) ∈ tbG := gq3 (List.mem_of_getElem? (i := 181) (by decide +kernel)) (by decide +kernel)
theorem q3_182 : Cond.methodLink RX6 259 yX3_days ∈ tbG := gq3 (List.mem_of_getElem? (i := 182) (by decide +kernel)) (by decide +kernel)
theorem q3_183 : Cond.instanceMethod yX3_days ∈ tbG := gq3 (List.mem_of_getElem? (i := 183) (by decide +kernel)) (by decide +kernel)
theorem q3_184 : Cond.selects RX3 yX3_days yX3_days ∈ tbG := gq3 (List.mem_of_getElem? (i := 184) (by decide +kernel)) (by decide +kernel)
theorem q3_185 : Cond.code yX3_days cX3_days 9 (some .int) ∈ tbG := gq3 (List.mem_of_getElem? (i := 185) rfl) rfl
theorem q3_186 : Cond.constantLong RX3 169 (16807 : Int64) ∈ tbG := gq3 (List.mem_of_getElem? (i := 186) (by decide +kernel)) (by decide +kernel)
theorem q3_187 : Cond.constantLong RX3 171 (2147483647 : Int64) ∈ tbG := gq3 (List.mem_of_getElem? (i := 187) (by decide +kernel)) (by decide +kernel)
theorem q3_188 : Cond.methodLink RX3 173 yX3_draw ∈ tbG := gq3 (List.mem_of_getElem? (i := 188) (by decide +kernel)) (by decide +kernel)
theorem q3_190 : Cond.instanceMethod yX3_draw ∈ tbG := gq3 (List.mem_of_getElem? (i := 190) (by decide +kernel)) (by decide +kernel)
theorem q3_191 : Cond.code yX3_draw cX3_draw 3 none ∈ tbG := gq3 (List.mem_of_getElem? (i := 191) rfl) rfl
theorem q3_192 : Cond.methodLink RX3 176 yX5_makeWhole ∈ tbG := gq3 (List.mem_of_getElem? (i := 192) (by decide +kernel)) (by decide +kernel)
theorem q3_193 : Cond.methodLink RL 139 yX6_image ∈ tbG := gq3 (List.mem_of_getElem? (i := 193) (by decide +kernel)) (by decide +kernel)
theorem q3_194 : Cond.instanceMethod yX6_image ∈ tbG := gq3 (List.mem_of_getElem? (i := 194) (by decide +kernel)) (by decide +kernel)
theorem q3_195 : Cond.selects RX6 yX6_image yX6_image ∈ tbG := gq3 (List.mem_of_getElem? (i := 195) (by decide +kernel)) (by decide +kernel)
theorem q3_196 : Cond.code yX6_image cX6_image 2 (some .int) ∈ tbG := gq3 (List.mem_of_getElem? (i := 196) rfl) rfl
theorem q3_197 : Cond.methodLink RL 143 yX6_restore ∈ tbG := gq3 (List.mem_of_getElem? (i := 197) (by decide +kernel)) (by decide +kernel)
theorem q3_198 : Cond.instanceMethod yX6_restore ∈ tbG := gq3 (List.mem_of_getElem? (i := 198) (by decide +kernel)) (by decide +kernel)
theorem q3_199 : Cond.selects RX6 yX6_restore yX6_restore ∈ tbG := gq3 (List.mem_of_getElem? (i := 199) (by decide +kernel)) (by decide +kernel)
theorem q3_200 : Cond.code yX6_restore cX6_restore 2 (some .int) ∈ tbG := gq3 (List.mem_of_getElem? (i := 200) rfl) rfl
theorem q3_201 : Cond.methodLink RL 147 yX6_kind ∈ tbG := gq3 (List.mem_of_getElem? (i := 201) (by decide +kernel)) (by decide +kernel)
theorem q3_202 : Cond.instanceMethod yX6_kind ∈ tbG := gq3 (List.mem_of_getElem? (i := 202) (by decide +kernel)) (by decide +kernel)
theorem q3_203 : Cond.selects RX6 yX6_kind yX6_kind ∈ tbG := gq3 (List.mem_of_getElem? (i := 203) (by decide +kernel)) (by decide +kernel)
theorem q3_204 : Cond.code yX6_kind cX6_kind 2 (some .int) ∈ tbG := gq3 (List.mem_of_getElem? (i := 204) rfl) rfl
theorem q3_205 : Cond.methodLink RL 151 yX6_as ∈ tbG := gq3 (List.mem_of_getElem? (i := 205) (by decide +kernel)) (by decide +kernel)
theorem q3_206 : Cond.instanceMethod yX6_as ∈ tbG := gq3 (List.mem_of_getElem? (i := 206) (by decide +kernel)) (by decide +kernel)
theorem q3_207 : Cond.selects RX6 yX6_as yX6_as ∈ tbG := gq3 (List.mem_of_getElem? (i := 207) (by decide +kernel)) (by decide +kernel)
theorem q3_208 : Cond.code yX6_as cX6_as 3 (some .int) ∈ tbG := gq3 (List.mem_of_getElem? (i := 208) rfl) rfl
theorem q3_209 : Cond.methodLink RX6 265 yX6_isOfKind ∈ tbG := gq3 (List.mem_of_getElem? (i := 209) (by decide +kernel)) (by decide +kernel)
theorem q3_210 : Cond.static yX6_isOfKind ∈ tbG := gq3 (List.mem_of_getElem? (i := 210) (by decide +kernel)) (by decide +kernel)
theorem q3_211 : Cond.code yX6_isOfKind cX6_isOfKind 2 (some .boolean) ∈ tbG := gq3 (List.mem_of_getElem? (i := 211) rfl) rfl
theorem q3_212 : Cond.fieldLink RX6 285 "MusicBox" "WIDER_KINDS" "[I" ∈ tbG := gq3 (List.mem_of_getElem? (i := 212) (by decide +kernel)) (by decide +kernel)
theorem q3_214 : Cond.methodLink RL 155 yX6_ask ∈ tbG := gq3 (List.mem_of_getElem? (i := 214) (by decide +kernel)) (by decide +kernel)
theorem q3_215 : Cond.instanceMethod yX6_ask ∈ tbG := gq3 (List.mem_of_getElem? (i := 215) (by decide +kernel)) (by decide +kernel)
theorem q3_216 : Cond.selects RX6 yX6_ask yX6_ask ∈ tbG := gq3 (List.mem_of_getElem? (i := 216) (by decide +kernel)) (by decide +kernel)
theorem q3_217 : Cond.code yX6_ask cX6_ask 3 (some .int) ∈ tbG := gq3 (List.mem_of_getElem? (i := 217) rfl) rfl
theorem q3_218 : Cond.methodLink RX6 268 yX0_start ∈ tbG := gq3 (List.mem_of_getElem? (i := 218) (by decide +kernel)) (by decide +kernel)
theorem q3_219 : Cond.instanceMethod yX0_start ∈ tbG := gq3 (List.mem_of_getElem? (i := 219) (by decide +kernel)) (by decide +kernel)
theorem q3_220 : Cond.selects RX0 yX0_start yX0_start ∈ tbG := gq3 (List.mem_of_getElem? (i := 220) (by decide +kernel)) (by decide +kernel)
theorem q3_221 : Cond.code yX0_start cX0_start 3 (some .int) ∈ tbG := gq3 (List.mem_of_getElem? (i := 221) rfl) rfl
theorem q3_222 : Cond.methodLink RX0 23 yX0_answer ∈ tbG := gq3 (List.mem_of_getElem? (i := 222) (by decide +kernel)) (by decide +kernel)
theorem q3_224 : Cond.instanceMethod yX0_answer ∈ tbG := gq3 (List.mem_of_getElem? (i := 224) (by decide +kernel)) (by decide +kernel)
theorem q3_225 : Cond.code yX0_answer cX0_answer 5 (some .int) ∈ tbG := gq3 (List.mem_of_getElem? (i := 225) rfl) rfl
theorem q3_226 : Cond.fieldLink RX0 32 "MusicBox$Asking" "SIZE_BODIES" "[I" ∈ tbG := gq3 (List.mem_of_getElem? (i := 226) (by decide +kernel)) (by decide +kernel)
theorem q3_228 : Cond.fieldLink RX0 35 "MusicBox$Asking" "MARK_BODIES" "[I" ∈ tbG := gq3 (List.mem_of_getElem? (i := 228) (by decide +kernel)) (by decide +kernel)
theorem q3_230 : Cond.methodLink RX0 38 yX0_body ∈ tbG := gq3 (List.mem_of_getElem? (i := 230) (by decide +kernel)) (by decide +kernel)
theorem q3_232 : Cond.instanceMethod yX0_body ∈ tbG := gq3 (List.mem_of_getElem? (i := 232) (by decide +kernel)) (by decide +kernel)
theorem q3_233 : Cond.code yX0_body cX0_body 4 (some .int) ∈ tbG := gq3 (List.mem_of_getElem? (i := 233) rfl) rfl
theorem q3_234 : Cond.methodLink RX0 41 yX0_leave ∈ tbG := gq3 (List.mem_of_getElem? (i := 234) (by decide +kernel)) (by decide +kernel)
theorem q3_236 : Cond.instanceMethod yX0_leave ∈ tbG := gq3 (List.mem_of_getElem? (i := 236) (by decide +kernel)) (by decide +kernel)
theorem q3_237 : Cond.code yX0_leave cX0_leave 2 none ∈ tbG := gq3 (List.mem_of_getElem? (i := 237) rfl) rfl
theorem q3_238 : Cond.methodLink RL 159 yX6_trace ∈ tbG := gq3 (List.mem_of_getElem? (i := 238) (by decide +kernel)) (by decide +kernel)
theorem q3_239 : Cond.instanceMethod yX6_trace ∈ tbG := gq3 (List.mem_of_getElem? (i := 239) (by decide +kernel)) (by decide +kernel)
theorem q4_0 : Cond.selects RX6 yX6_trace yX6_trace ∈ tbG := gq4 (List.mem_of_getElem? (i := 0) (by decide +kernel)) (by decide +kernel)
theorem q4_1 : Cond.code yX6_trace cX6_trace 2 (some .int) ∈ tbG := gq4 (List.mem_of_getElem? (i := 1) rfl) rfl
theorem q4_2 : Cond.constant RX6 275 (-1000000 : Int32) ∈ tbG := gq4 (List.mem_of_getElem? (i := 2) (by decide +kernel)) (by decide +kernel)
theorem q4_3 : Cond.methodLink RL 163 yX6_count ∈ tbG := gq4 (List.mem_of_getElem? (i := 3) (by decide +kernel)) (by decide +kernel)
theorem q4_4 : Cond.instanceMethod yX6_count ∈ tbG := gq4 (List.mem_of_getElem? (i := 4) (by decide +kernel)) (by decide +kernel)
theorem q4_5 : Cond.selects RX6 yX6_count yX6_count ∈ tbG := gq4 (List.mem_of_getElem? (i := 5) (by decide +kernel)) (by decide +kernel)
theorem q4_6 : Cond.code yX6_count cX6_count 2 (some .int) ∈ tbG := gq4 (List.mem_of_getElem? (i := 6) rfl) rfl
theorem q4_7 : Cond.methodLink RX6 276 yX6_rowsThere ∈ tbG := gq4 (List.mem_of_getElem? (i := 7) (by decide +kernel)) (by decide +kernel)
theorem q4_9 : Cond.instanceMethod yX6_rowsThere ∈ tbG := gq4 (List.mem_of_getElem? (i := 9) (by decide +kernel)) (by decide +kernel)
theorem q4_10 : Cond.code yX6_rowsThere cX6_rowsThere 3 (some .int) ∈ tbG := gq4 (List.mem_of_getElem? (i := 10) rfl) rfl
theorem q4_11 : Cond.methodLink RX6 279 yX5_pluckedInAll ∈ tbG := gq4 (List.mem_of_getElem? (i := 11) (by decide +kernel)) (by decide +kernel)
theorem q4_12 : Cond.instanceMethod yX5_pluckedInAll ∈ tbG := gq4 (List.mem_of_getElem? (i := 12) (by decide +kernel)) (by decide +kernel)
theorem q4_13 : Cond.selects RX5 yX5_pluckedInAll yX5_pluckedInAll ∈ tbG := gq4 (List.mem_of_getElem? (i := 13) (by decide +kernel)) (by decide +kernel)
theorem q4_14 : Cond.code yX5_pluckedInAll cX5_pluckedInAll 3 (some .int) ∈ tbG := gq4 (List.mem_of_getElem? (i := 14) rfl) rfl
theorem q4_15 : Cond.methodLink RL 167 yX6_status ∈ tbG := gq4 (List.mem_of_getElem? (i := 15) (by decide +kernel)) (by decide +kernel)
theorem q4_16 : Cond.instanceMethod yX6_status ∈ tbG := gq4 (List.mem_of_getElem? (i := 16) (by decide +kernel)) (by decide +kernel)
theorem q4_17 : Cond.selects RX6 yX6_status yX6_status ∈ tbG := gq4 (List.mem_of_getElem? (i := 17) (by decide +kernel)) (by decide +kernel)
theorem q4_18 : Cond.code yX6_status cX6_status 1 (some .int) ∈ tbG := gq4 (List.mem_of_getElem? (i := 18) rfl) rfl
theorem q4_19 : Cond.classLink RL 10 RX7 ∈ tbG := gq4 (List.mem_of_getElem? (i := 19) (by decide +kernel)) (by decide +kernel)
theorem q4_20 : Cond.instantiable RX7 18 ∈ tbG := gq4 (List.mem_of_getElem? (i := 20) (by decide +kernel)) (by decide +kernel)
theorem q4_21 : Cond.methodLink RL 12 yX7_init ∈ tbG := gq4 (List.mem_of_getElem? (i := 21) (by decide +kernel)) (by decide +kernel)
theorem q4_22 : Cond.instanceMethod yX7_init ∈ tbG := gq4 (List.mem_of_getElem? (i := 22) (by decide +kernel)) (by decide +kernel)
theorem q4_23 : Cond.code yX7_init cX7_init 2 none ∈ tbG := gq4 (List.mem_of_getElem? (i := 23) rfl) rfl
theorem q4_24 : Cond.methodLink RX7 1 objectInit ∈ tbG := gq4 (List.mem_of_getElem? (i := 24) (by decide +kernel)) (by decide +kernel)
theorem q4_25 : Cond.fieldLink RX7 7 "MusicBoxModel" "w" "[I" ∈ tbG := gq4 (List.mem_of_getElem? (i := 25) (by decide +kernel)) (by decide +kernel)
theorem q4_26 : Cond.fieldLink RX7 124 "MusicBoxModel" "undoes" "I" ∈ tbG := gq4 (List.mem_of_getElem? (i := 26) (by decide +kernel)) (by decide +kernel)
theorem q4_27 : Cond.fieldLink RX7 13 "MusicBoxModel" "tape" "[I" ∈ tbG := gq4 (List.mem_of_getElem? (i := 27) (by decide +kernel)) (by decide +kernel)
theorem q4_28 : Cond.fieldLink RX7 69 "MusicBoxModel" "taped" "I" ∈ tbG := gq4 (List.mem_of_getElem? (i := 28) (by decide +kernel)) (by decide +kernel)
theorem q4_29 : Cond.fieldLink RX7 76 "MusicBoxModel" "faulty" "I" ∈ tbG := gq4 (List.mem_of_getElem? (i := 29) (by decide +kernel)) (by decide +kernel)
theorem q4_30 : Cond.fieldLink RX7 47 "MusicBoxModel" "status" "I" ∈ tbG := gq4 (List.mem_of_getElem? (i := 30) (by decide +kernel)) (by decide +kernel)
theorem q4_31 : Cond.fieldLink RX7 16 "MusicBoxModel" "many" "[I" ∈ tbG := gq4 (List.mem_of_getElem? (i := 31) (by decide +kernel)) (by decide +kernel)
theorem q4_32 : Cond.fieldLink RX7 19 "MusicBoxModel" "lane" "[I" ∈ tbG := gq4 (List.mem_of_getElem? (i := 32) (by decide +kernel)) (by decide +kernel)
theorem q4_33 : Cond.fieldLink RX7 22 "MusicBoxModel" "items" "[I" ∈ tbG := gq4 (List.mem_of_getElem? (i := 33) (by decide +kernel)) (by decide +kernel)
theorem q4_34 : Cond.fieldLink RX7 25 "MusicBoxModel" "held" "[I" ∈ tbG := gq4 (List.mem_of_getElem? (i := 34) (by decide +kernel)) (by decide +kernel)
theorem q4_35 : Cond.fieldLink RX7 73 "MusicBoxModel" "at" "I" ∈ tbG := gq4 (List.mem_of_getElem? (i := 35) (by decide +kernel)) (by decide +kernel)
theorem q4_36 : Cond.fieldLink RX7 79 "MusicBoxModel" "start" "I" ∈ tbG := gq4 (List.mem_of_getElem? (i := 36) (by decide +kernel)) (by decide +kernel)
theorem q4_37 : Cond.fieldLink RX7 90 "MusicBoxModel" "number" "I" ∈ tbG := gq4 (List.mem_of_getElem? (i := 37) (by decide +kernel)) (by decide +kernel)
theorem q4_38 : Cond.fieldLink RX7 28 "MusicBoxModel" "value" "[I" ∈ tbG := gq4 (List.mem_of_getElem? (i := 38) (by decide +kernel)) (by decide +kernel)
theorem q4_39 : Cond.fieldLink RX7 31 "MusicBoxModel" "hasPin" "[I" ∈ tbG := gq4 (List.mem_of_getElem? (i := 39) (by decide +kernel)) (by decide +kernel)
theorem q4_40 : Cond.fieldLink RX7 34 "MusicBoxModel" "isKept" "[Z" ∈ tbG := gq4 (List.mem_of_getElem? (i := 40) (by decide +kernel)) (by decide +kernel)
theorem q4_41 : Cond.fieldLink RX7 38 "MusicBoxModel" "trace" "[I" ∈ tbG := gq4 (List.mem_of_getElem? (i := 41) (by decide +kernel)) (by decide +kernel)
theorem q4_42 : Cond.fieldLink RX7 219 "MusicBoxModel" "traced" "I" ∈ tbG := gq4 (List.mem_of_getElem? (i := 42) (by decide +kernel)) (by decide +kernel)
theorem q4_81 : Cond.methodLink RL 17 yX7_row ∈ tbG := gq4 (List.mem_of_getElem? (i := 81) (by decide +kernel)) (by decide +kernel)
theorem q4_82 : Cond.instanceMethod yX7_row ∈ tbG := gq4 (List.mem_of_getElem? (i := 82) (by decide +kernel)) (by decide +kernel)
theorem q4_83 : Cond.selects RX7 yX7_row yX7_row ∈ tbG := gq4 (List.mem_of_getElem? (i := 83) (by decide +kernel)) (by decide +kernel)
theorem q4_84 : Cond.code yX7_row cX7_row 5 (some .int) ∈ tbG := gq4 (List.mem_of_getElem? (i := 84) rfl) rfl
theorem q4_85 : Cond.methodLink RX7 52 yX7_isRow ∈ tbG := gq4 (List.mem_of_getElem? (i := 85) (by decide +kernel)) (by decide +kernel)
theorem q4_86 : Cond.static yX7_isRow ∈ tbG := gq4 (List.mem_of_getElem? (i := 86) (by decide +kernel)) (by decide +kernel)
theorem q4_87 : Cond.code yX7_isRow cX7_isRow 1 (some .boolean) ∈ tbG := gq4 (List.mem_of_getElem? (i := 87) rfl) rfl
theorem q4_88 : Cond.constantLong RX7 45 (7 : Int64) ∈ tbG := gq4 (List.mem_of_getElem? (i := 88) (by decide +kernel)) (by decide +kernel)
theorem q4_89 : Cond.methodLink RX7 41 yX7_in ∈ tbG := gq4 (List.mem_of_getElem? (i := 89) (by decide +kernel)) (by decide +kernel)
theorem q4_90 : Cond.static yX7_in ∈ tbG := gq4 (List.mem_of_getElem? (i := 90) (by decide +kernel)) (by decide +kernel)
theorem q4_91 : Cond.code yX7_in cX7_in 6 (some .boolean) ∈ tbG := gq4 (List.mem_of_getElem? (i := 91) rfl) rfl
theorem q4_92 : Cond.constantLong RX7 56 (2 : Int64) ∈ tbG := gq4 (List.mem_of_getElem? (i := 92) (by decide +kernel)) (by decide +kernel)
theorem q4_93 : Cond.constant RX7 58 (-1000001 : Int32) ∈ tbG := gq4 (List.mem_of_getElem? (i := 93) (by decide +kernel)) (by decide +kernel)
theorem q4_94 : Cond.methodLink RX7 59 yX7_finds ∈ tbG := gq4 (List.mem_of_getElem? (i := 94) (by decide +kernel)) (by decide +kernel)
theorem q4_96 : Cond.instanceMethod yX7_finds ∈ tbG := gq4 (List.mem_of_getElem? (i := 96) (by decide +kernel)) (by decide +kernel)
theorem q4_97 : Cond.code yX7_finds cX7_finds 2 (some .int) ∈ tbG := gq4 (List.mem_of_getElem? (i := 97) rfl) rfl
theorem q4_98 : Cond.constant RX7 51 (-1000010 : Int32) ∈ tbG := gq4 (List.mem_of_getElem? (i := 98) (by decide +kernel)) (by decide +kernel)
theorem q4_99 : Cond.methodLink RL 21 yX7_set ∈ tbG := gq4 (List.mem_of_getElem? (i := 99) (by decide +kernel)) (by decide +kernel)
theorem q4_100 : Cond.instanceMethod yX7_set ∈ tbG := gq4 (List.mem_of_getElem? (i := 100) (by decide +kernel)) (by decide +kernel)
theorem q4_101 : Cond.selects RX7 yX7_set yX7_set ∈ tbG := gq4 (List.mem_of_getElem? (i := 101) (by decide +kernel)) (by decide +kernel)
theorem q4_102 : Cond.code yX7_set cX7_set 5 (some .int) ∈ tbG := gq4 (List.mem_of_getElem? (i := 102) rfl) rfl
theorem q4_103 : Cond.methodLink RX7 63 yX7_against ∈ tbG := gq4 (List.mem_of_getElem? (i := 103) (by decide +kernel)) (by decide +kernel)
theorem q4_105 : Cond.instanceMethod yX7_against ∈ tbG := gq4 (List.mem_of_getElem? (i := 105) (by decide +kernel)) (by decide +kernel)
theorem q4_106 : Cond.code yX7_against cX7_against 4 (some .int) ∈ tbG := gq4 (List.mem_of_getElem? (i := 106) rfl) rfl
theorem q4_107 : Cond.methodLink RL 26 yX7_copy ∈ tbG := gq4 (List.mem_of_getElem? (i := 107) (by decide +kernel)) (by decide +kernel)
theorem q4_108 : Cond.instanceMethod yX7_copy ∈ tbG := gq4 (List.mem_of_getElem? (i := 108) (by decide +kernel)) (by decide +kernel)
theorem q4_109 : Cond.selects RX7 yX7_copy yX7_copy ∈ tbG := gq4 (List.mem_of_getElem? (i := 109) (by decide +kernel)) (by decide +kernel)
theorem q4_110 : Cond.code yX7_copy cX7_copy 7 (some .int) ∈ tbG := gq4 (List.mem_of_getElem? (i := 110) rfl) rfl
theorem q4_111 : Cond.methodLink RL 31 yX7_drop ∈ tbG := gq4 (List.mem_of_getElem? (i := 111) (by decide +kernel)) (by decide +kernel)
theorem q4_112 : Cond.instanceMethod yX7_drop ∈ tbG := gq4 (List.mem_of_getElem? (i := 112) (by decide +kernel)) (by decide +kernel)
theorem q4_113 : Cond.selects RX7 yX7_drop yX7_drop ∈ tbG := gq4 (List.mem_of_getElem? (i := 113) (by decide +kernel)) (by decide +kernel)
theorem q4_114 : Cond.code yX7_drop cX7_drop 3 (some .int) ∈ tbG := gq4 (List.mem_of_getElem? (i := 114) rfl) rfl
theorem q4_115 : Cond.methodLink RL 35 yX7_feed ∈ tbG := gq4 (List.mem_of_getElem? (i := 115) (by decide +kernel)) (by decide +kernel)
theorem q4_116 : Cond.instanceMethod yX7_feed ∈ tbG := gq4 (List.mem_of_getElem? (i := 116) (by decide +kernel)) (by decide +kernel)
theorem q4_117 : Cond.selects RX7 yX7_feed yX7_feed ∈ tbG := gq4 (List.mem_of_getElem? (i := 117) (by decide +kernel)) (by decide +kernel)
theorem q4_118 : Cond.code yX7_feed cX7_feed 2 (some .int) ∈ tbG := gq4 (List.mem_of_getElem? (i := 118) rfl) rfl
theorem q4_119 : Cond.constantLong RX7 67 (255 : Int64) ∈ tbG := gq4 (List.mem_of_getElem? (i := 119) (by decide +kernel)) (by decide +kernel)
theorem q4_120 : Cond.constant RX7 72 (-1000003 : Int32) ∈ tbG := gq4 (List.mem_of_getElem? (i := 120) (by decide +kernel)) (by decide +kernel)
theorem q4_121 : Cond.methodLink RL 40 yX7_box ∈ tbG := gq4 (List.mem_of_getElem? (i := 121) (by decide +kernel)) (by decide +kernel)
theorem q4_122 : Cond.instanceMethod yX7_box ∈ tbG := gq4 (List.mem_of_getElem? (i := 122) (by decide +kernel)) (by decide +kernel)
theorem q4_123 : Cond.selects RX7 yX7_box yX7_box ∈ tbG := gq4 (List.mem_of_getElem? (i := 123) (by decide +kernel)) (by decide +kernel)
theorem q4_124 : Cond.code yX7_box cX7_box 2 (some .int) ∈ tbG := gq4 (List.mem_of_getElem? (i := 124) rfl) rfl
theorem q4_125 : Cond.methodLink RX7 116 yX7_takesAll ∈ tbG := gq4 (List.mem_of_getElem? (i := 125) (by decide +kernel)) (by decide +kernel)
theorem q4_127 : Cond.instanceMethod yX7_takesAll ∈ tbG := gq4 (List.mem_of_getElem? (i := 127) (by decide +kernel)) (by decide +kernel)
theorem q4_128 : Cond.code yX7_takesAll cX7_takesAll 1 (some .boolean) ∈ tbG := gq4 (List.mem_of_getElem? (i := 128) rfl) rfl
theorem q4_129 : Cond.methodLink RX7 106 yX7_takesLaw ∈ tbG := gq4 (List.mem_of_getElem? (i := 129) (by decide +kernel)) (by decide +kernel)
theorem q4_131 : Cond.instanceMethod yX7_takesLaw ∈ tbG := gq4 (List.mem_of_getElem? (i := 131) (by decide +kernel)) (by decide +kernel)
theorem q4_132 : Cond.code yX7_takesLaw cX7_takesLaw 1 (some .boolean) ∈ tbG := gq4 (List.mem_of_getElem? (i := 132) rfl) rfl
theorem q4_133 : Cond.methodLink RX7 97 yX7_takes ∈ tbG := gq4 (List.mem_of_getElem? (i := 133) (by decide +kernel)) (by decide +kernel)
theorem q4_135 : Cond.instanceMethod yX7_takes ∈ tbG := gq4 (List.mem_of_getElem? (i := 135) (by decide +kernel)) (by decide +kernel)
theorem q4_136 : Cond.code yX7_takes cX7_takes 2 (some .boolean) ∈ tbG := gq4 (List.mem_of_getElem? (i := 136) rfl) rfl
theorem q4_137 : Cond.methodLink RX7 82 yX7_here ∈ tbG := gq4 (List.mem_of_getElem? (i := 137) (by decide +kernel)) (by decide +kernel)
theorem q4_139 : Cond.instanceMethod yX7_here ∈ tbG := gq4 (List.mem_of_getElem? (i := 139) (by decide +kernel)) (by decide +kernel)
theorem q4_140 : Cond.code yX7_here cX7_here 1 (some .int) ∈ tbG := gq4 (List.mem_of_getElem? (i := 140) rfl) rfl
theorem q4_141 : Cond.methodLink RX7 86 yX7_fails ∈ tbG := gq4 (List.mem_of_getElem? (i := 141) (by decide +kernel)) (by decide +kernel)
theorem q4_143 : Cond.instanceMethod yX7_fails ∈ tbG := gq4 (List.mem_of_getElem? (i := 143) (by decide +kernel)) (by decide +kernel)
theorem q4_144 : Cond.code yX7_fails cX7_fails 3 (some .boolean) ∈ tbG := gq4 (List.mem_of_getElem? (i := 144) rfl) rfl
theorem q4_145 : Cond.methodLink RX7 100 yX7_takesNumber ∈ tbG := gq4 (List.mem_of_getElem? (i := 145) (by decide +kernel)) (by decide +kernel)
theorem q4_147 : Cond.instanceMethod yX7_takesNumber ∈ tbG := gq4 (List.mem_of_getElem? (i := 147) (by decide +kernel)) (by decide +kernel)
theorem q4_148 : Cond.code yX7_takesNumber cX7_takesNumber 4 (some .boolean) ∈ tbG := gq4 (List.mem_of_getElem? (i := 148) rfl) rfl
theorem q4_149 : Cond.constantLong RX7 93 (48 : Int64) ∈ tbG := gq4 (List.mem_of_getElem? (i := 149) (by decide +kernel)) (by decide +kernel)
theorem q4_150 : Cond.constantLong RX7 95 (57 : Int64) ∈ tbG := gq4 (List.mem_of_getElem? (i := 150) (by decide +kernel)) (by decide +kernel)
theorem q4_151 : Cond.methodLink RX7 110 yX7_takesColumn ∈ tbG := gq4 (List.mem_of_getElem? (i := 151) (by decide +kernel)) (by decide +kernel)
theorem q4_153 : Cond.instanceMethod yX7_takesColumn ∈ tbG := gq4 (List.mem_of_getElem? (i := 153) (by decide +kernel)) (by decide +kernel)
theorem q4_154 : Cond.code yX7_takesColumn cX7_takesColumn 1 (some .boolean) ∈ tbG := gq4 (List.mem_of_getElem? (i := 154) rfl) rfl
theorem q4_155 : Cond.methodLink RX7 113 yX7_takesTooth ∈ tbG := gq4 (List.mem_of_getElem? (i := 155) (by decide +kernel)) (by decide +kernel)
theorem q4_157 : Cond.instanceMethod yX7_takesTooth ∈ tbG := gq4 (List.mem_of_getElem? (i := 157) (by decide +kernel)) (by decide +kernel)
theorem q4_158 : Cond.code yX7_takesTooth cX7_takesTooth 2 (some .boolean) ∈ tbG := gq4 (List.mem_of_getElem? (i := 158) rfl) rfl
theorem q4_159 : Cond.methodLink RX7 103 yX7_kindOf ∈ tbG := gq4 (List.mem_of_getElem? (i := 159) (by decide +kernel)) (by decide +kernel)
theorem q4_160 : Cond.static yX7_kindOf ∈ tbG := gq4 (List.mem_of_getElem? (i := 160) (by decide +kernel)) (by decide +kernel)
theorem q4_161 : Cond.code yX7_kindOf cX7_kindOf 1 (some .int) ∈ tbG := gq4 (List.mem_of_getElem? (i := 161) rfl) rfl
theorem q4_162 : Cond.constant RX7 119 (-1000100 : Int32) ∈ tbG := gq4 (List.mem_of_getElem? (i := 162) (by decide +kernel)) (by decide +kernel)
theorem q4_163 : Cond.methodLink RX7 120 yX7_copyOf ∈ tbG := gq4 (List.mem_of_getElem? (i := 163) (by decide +kernel)) (by decide +kernel)
theorem q4_165 : Cond.instanceMethod yX7_copyOf ∈ tbG := gq4 (List.mem_of_getElem? (i := 165) (by decide +kernel)) (by decide +kernel)
theorem q4_166 : Cond.code yX7_copyOf cX7_copyOf 4 none ∈ tbG := gq4 (List.mem_of_getElem? (i := 166) rfl) rfl
theorem q4_167 : Cond.methodLink RL 44 yX7_fault ∈ tbG := gq4 (List.mem_of_getElem? (i := 167) (by decide +kernel)) (by decide +kernel)
theorem q4_168 : Cond.instanceMethod yX7_fault ∈ tbG := gq4 (List.mem_of_getElem? (i := 168) (by decide +kernel)) (by decide +kernel)
theorem q4_169 : Cond.selects RX7 yX7_fault yX7_fault ∈ tbG := gq4 (List.mem_of_getElem? (i := 169) (by decide +kernel)) (by decide +kernel)
theorem q4_170 : Cond.code yX7_fault cX7_fault 1 (some .int) ∈ tbG := gq4 (List.mem_of_getElem? (i := 170) rfl) rfl
theorem q4_171 : Cond.methodLink RL 48 yX7_undo ∈ tbG := gq4 (List.mem_of_getElem? (i := 171) (by decide +kernel)) (by decide +kernel)
theorem q4_172 : Cond.instanceMethod yX7_undo ∈ tbG := gq4 (List.mem_of_getElem? (i := 172) (by decide +kernel)) (by decide +kernel)
theorem q4_173 : Cond.selects RX7 yX7_undo yX7_undo ∈ tbG := gq4 (List.mem_of_getElem? (i := 173) (by decide +kernel)) (by decide +kernel)
theorem q4_174 : Cond.code yX7_undo cX7_undo 1 (some .int) ∈ tbG := gq4 (List.mem_of_getElem? (i := 174) rfl) rfl
theorem q4_175 : Cond.constant RX7 137 (-1000002 : Int32) ∈ tbG := gq4 (List.mem_of_getElem? (i := 175) (by decide +kernel)) (by decide +kernel)
theorem q4_176 : Cond.methodLink RL 52 yX7_ticks ∈ tbG := gq4 (List.mem_of_getElem? (i := 176) (by decide +kernel)) (by decide +kernel)
theorem q4_177 : Cond.instanceMethod yX7_ticks ∈ tbG := gq4 (List.mem_of_getElem? (i := 177) (by decide +kernel)) (by decide +kernel)
theorem q4_178 : Cond.selects RX7 yX7_ticks yX7_ticks ∈ tbG := gq4 (List.mem_of_getElem? (i := 178) (by decide +kernel)) (by decide +kernel)
theorem q4_179 : Cond.code yX7_ticks cX7_ticks 3 (some .int) ∈ tbG := gq4 (List.mem_of_getElem? (i := 179) rfl) rfl
theorem q4_180 : Cond.methodLink RX7 138 yX7_isBox ∈ tbG := gq4 (List.mem_of_getElem? (i := 180) (by decide +kernel)) (by decide +kernel)
theorem q4_182 : Cond.instanceMethod yX7_isBox ∈ tbG := gq4 (List.mem_of_getElem? (i := 182) (by decide +kernel)) (by decide +kernel)
theorem q4_183 : Cond.code yX7_isBox cX7_isBox 1 (some .boolean) ∈ tbG := gq4 (List.mem_of_getElem? (i := 183) rfl) rfl
theorem q4_184 : Cond.constantLong RX7 141 (24 : Int64) ∈ tbG := gq4 (List.mem_of_getElem? (i := 184) (by decide +kernel)) (by decide +kernel)
theorem q4_185 : Cond.methodLink RX7 143 yX7_minds ∈ tbG := gq4 (List.mem_of_getElem? (i := 185) (by decide +kernel)) (by decide +kernel)
theorem q4_187 : Cond.instanceMethod yX7_minds ∈ tbG := gq4 (List.mem_of_getElem? (i := 187) (by decide +kernel)) (by decide +kernel)
theorem q4_188 : Cond.code yX7_minds cX7_minds 2 none ∈ tbG := gq4 (List.mem_of_getElem? (i := 188) rfl) rfl
theorem q4_189 : Cond.methodLink RX7 146 yX7_passes ∈ tbG := gq4 (List.mem_of_getElem? (i := 189) (by decide +kernel)) (by decide +kernel)
theorem q4_191 : Cond.instanceMethod yX7_passes ∈ tbG := gq4 (List.mem_of_getElem? (i := 191) (by decide +kernel)) (by decide +kernel)
theorem q4_192 : Cond.code yX7_passes cX7_passes 3 none ∈ tbG := gq4 (List.mem_of_getElem? (i := 192) rfl) rfl
theorem q4_193 : Cond.methodLink RX7 130 yX7_fades ∈ tbG := gq4 (List.mem_of_getElem? (i := 193) (by decide +kernel)) (by decide +kernel)
theorem q4_195 : Cond.instanceMethod yX7_fades ∈ tbG := gq4 (List.mem_of_getElem? (i := 195) (by decide +kernel)) (by decide +kernel)
theorem q4_196 : Cond.code yX7_fades cX7_fades 6 none ∈ tbG := gq4 (List.mem_of_getElem? (i := 196) rfl) rfl
theorem q4_197 : Cond.methodLink RX7 127 yX7_has ∈ tbG := gq4 (List.mem_of_getElem? (i := 197) (by decide +kernel)) (by decide +kernel)
theorem q4_198 : Cond.static yX7_has ∈ tbG := gq4 (List.mem_of_getElem? (i := 198) (by decide +kernel)) (by decide +kernel)
theorem q4_199 : Cond.code yX7_has cX7_has 2 (some .boolean) ∈ tbG := gq4 (List.mem_of_getElem? (i := 199) rfl) rfl
theorem q4_200 : Cond.methodLink RX7 134 yX7_plucks ∈ tbG := gq4 (List.mem_of_getElem? (i := 200) (by decide +kernel)) (by decide +kernel)
theorem q4_202 : Cond.instanceMethod yX7_plucks ∈ tbG := gq4 (List.mem_of_getElem? (i := 202) (by decide +kernel)) (by decide +kernel)
theorem q4_203 : Cond.code yX7_plucks cX7_plucks 5 none ∈ tbG := gq4 (List.mem_of_getElem? (i := 203) rfl) rfl
theorem q4_204 : Cond.methodLink RX7 149 yX7_loud ∈ tbG := gq4 (List.mem_of_getElem? (i := 204) (by decide +kernel)) (by decide +kernel)
theorem q4_206 : Cond.instanceMethod yX7_loud ∈ tbG := gq4 (List.mem_of_getElem? (i := 206) (by decide +kernel)) (by decide +kernel)
theorem q4_207 : Cond.code yX7_loud cX7_loud 4 (some .int) ∈ tbG := gq4 (List.mem_of_getElem? (i := 207) rfl) rfl
theorem q4_208 : Cond.methodLink RL 56 yX7_wind ∈ tbG := gq4 (List.mem_of_getElem? (i := 208) (by decide +kernel)) (by decide +kernel)
theorem q4_209 : Cond.instanceMethod yX7_wind ∈ tbG := gq4 (List.mem_of_getElem? (i := 209) (by decide +kernel)) (by decide +kernel)
theorem q4_210 : Cond.selects RX7 yX7_wind yX7_wind ∈ tbG := gq4 (List.mem_of_getElem? (i := 210) (by decide +kernel)) (by decide +kernel)
theorem q4_211 : Cond.code yX7_wind cX7_wind 2 (some .int) ∈ tbG := gq4 (List.mem_of_getElem? (i := 211) rfl) rfl
theorem q4_212 : Cond.constantLong RX7 152 (99 : Int64) ∈ tbG := gq4 (List.mem_of_getElem? (i := 212) (by decide +kernel)) (by decide +kernel)
theorem q4_213 : Cond.methodLink RL 61 yX7_pin ∈ tbG := gq4 (List.mem_of_getElem? (i := 213) (by decide +kernel)) (by decide +kernel)
theorem q4_214 : Cond.instanceMethod yX7_pin ∈ tbG := gq4 (List.mem_of_getElem? (i := 214) (by decide +kernel)) (by decide +kernel)
theorem q4_215 : Cond.selects RX7 yX7_pin yX7_pin ∈ tbG := gq4 (List.mem_of_getElem? (i := 215) (by decide +kernel)) (by decide +kernel)
theorem q4_216 : Cond.code yX7_pin cX7_pin 3 (some .int) ∈ tbG := gq4 (List.mem_of_getElem? (i := 216) rfl) rfl
theorem q4_217 : Cond.methodLink RX7 154 yX7_isColumn ∈ tbG := gq4 (List.mem_of_getElem? (i := 217) (by decide +kernel)) (by decide +kernel)
theorem q4_219 : Cond.instanceMethod yX7_isColumn ∈ tbG := gq4 (List.mem_of_getElem? (i := 219) (by decide +kernel)) (by decide +kernel)
theorem q4_220 : Cond.code yX7_isColumn cX7_isColumn 2 (some .boolean) ∈ tbG := gq4 (List.mem_of_getElem? (i := 220) rfl) rfl
theorem q4_221 : Cond.methodLink RX7 157 yX7_isTooth ∈ tbG := gq4 (List.mem_of_getElem? (i := 221) (by decide +kernel)) (by decide +kernel)
theorem q4_223 : Cond.instanceMethod yX7_isTooth ∈ tbG := gq4 (List.mem_of_getElem? (i := 223) (by decide +kernel)) (by decide +kernel)
theorem q4_224 : Cond.code yX7_isTooth cX7_isTooth 2 (some .boolean) ∈ tbG := gq4 (List.mem_of_getElem? (i := 224) rfl) rfl
theorem q4_225 : Cond.methodLink RL 65 yX7_drum ∈ tbG := gq4 (List.mem_of_getElem? (i := 225) (by decide +kernel)) (by decide +kernel)
theorem q4_226 : Cond.instanceMethod yX7_drum ∈ tbG := gq4 (List.mem_of_getElem? (i := 226) (by decide +kernel)) (by decide +kernel)
theorem q4_227 : Cond.selects RX7 yX7_drum yX7_drum ∈ tbG := gq4 (List.mem_of_getElem? (i := 227) (by decide +kernel)) (by decide +kernel)
theorem q4_228 : Cond.code yX7_drum cX7_drum 3 (some .int) ∈ tbG := gq4 (List.mem_of_getElem? (i := 228) rfl) rfl
theorem q4_229 : Cond.methodLink RL 69 yX7_mend ∈ tbG := gq4 (List.mem_of_getElem? (i := 229) (by decide +kernel)) (by decide +kernel)
theorem q4_230 : Cond.instanceMethod yX7_mend ∈ tbG := gq4 (List.mem_of_getElem? (i := 230) (by decide +kernel)) (by decide +kernel)
theorem q4_231 : Cond.selects RX7 yX7_mend yX7_mend ∈ tbG := gq4 (List.mem_of_getElem? (i := 231) (by decide +kernel)) (by decide +kernel)
theorem q4_232 : Cond.code yX7_mend cX7_mend 3 (some .int) ∈ tbG := gq4 (List.mem_of_getElem? (i := 232) rfl) rfl
theorem q4_233 : Cond.methodLink RX7 160 yX7_mends ∈ tbG := gq4 (List.mem_of_getElem? (i := 233) (by decide +kernel)) (by decide +kernel)
theorem q4_235 : Cond.instanceMethod yX7_mends ∈ tbG := gq4 (List.mem_of_getElem? (i := 235) (by decide +kernel)) (by decide +kernel)
theorem q4_236 : Cond.code yX7_mends cX7_mends 3 none ∈ tbG := gq4 (List.mem_of_getElem? (i := 236) rfl) rfl
theorem q4_237 : Cond.methodLink RL 73 yX7_tooth ∈ tbG := gq4 (List.mem_of_getElem? (i := 237) (by decide +kernel)) (by decide +kernel)
theorem q4_238 : Cond.instanceMethod yX7_tooth ∈ tbG := gq4 (List.mem_of_getElem? (i := 238) (by decide +kernel)) (by decide +kernel)
theorem q4_239 : Cond.selects RX7 yX7_tooth yX7_tooth ∈ tbG := gq4 (List.mem_of_getElem? (i := 239) (by decide +kernel)) (by decide +kernel)
theorem q5_0 : Cond.code yX7_tooth cX7_tooth 3 (some .int) ∈ tbG := gq5 (List.mem_of_getElem? (i := 0) rfl) rfl
theorem q5_1 : Cond.methodLink RX7 163 yX7_columnsOf ∈ tbG := gq5 (List.mem_of_getElem? (i := 1) (by decide +kernel)) (by decide +kernel)
theorem q5_3 : Cond.instanceMethod yX7_columnsOf ∈ tbG := gq5 (List.mem_of_getElem? (i := 3) (by decide +kernel)) (by decide +kernel)
theorem q5_4 : Cond.code yX7_columnsOf cX7_columnsOf 5 (some .int) ∈ tbG := gq5 (List.mem_of_getElem? (i := 4) rfl) rfl
theorem q5_5 : Cond.methodLink RL 77 yX7_pins ∈ tbG := gq5 (List.mem_of_getElem? (i := 5) (by decide +kernel)) (by decide +kernel)
theorem q5_6 : Cond.instanceMethod yX7_pins ∈ tbG := gq5 (List.mem_of_getElem? (i := 6) (by decide +kernel)) (by decide +kernel)
theorem q5_7 : Cond.selects RX7 yX7_pins yX7_pins ∈ tbG := gq5 (List.mem_of_getElem? (i := 7) (by decide +kernel)) (by decide +kernel)
theorem q5_8 : Cond.code yX7_pins cX7_pins 2 (some .int) ∈ tbG := gq5 (List.mem_of_getElem? (i := 8) rfl) rfl
theorem q5_9 : Cond.methodLink RL 81 yX7_stand ∈ tbG := gq5 (List.mem_of_getElem? (i := 9) (by decide +kernel)) (by decide +kernel)
theorem q5_10 : Cond.instanceMethod yX7_stand ∈ tbG := gq5 (List.mem_of_getElem? (i := 10) (by decide +kernel)) (by decide +kernel)
theorem q5_11 : Cond.selects RX7 yX7_stand yX7_stand ∈ tbG := gq5 (List.mem_of_getElem? (i := 11) (by decide +kernel)) (by decide +kernel)
theorem q5_12 : Cond.code yX7_stand cX7_stand 2 (some .int) ∈ tbG := gq5 (List.mem_of_getElem? (i := 12) rfl) rfl
theorem q5_13 : Cond.methodLink RX7 167 yX7_ringing ∈ tbG := gq5 (List.mem_of_getElem? (i := 13) (by decide +kernel)) (by decide +kernel)
theorem q5_15 : Cond.instanceMethod yX7_ringing ∈ tbG := gq5 (List.mem_of_getElem? (i := 15) (by decide +kernel)) (by decide +kernel)
theorem q5_16 : Cond.code yX7_ringing cX7_ringing 4 (some .int) ∈ tbG := gq5 (List.mem_of_getElem? (i := 16) rfl) rfl
theorem q5_17 : Cond.methodLink RL 85 yX7_ahead ∈ tbG := gq5 (List.mem_of_getElem? (i := 17) (by decide +kernel)) (by decide +kernel)
theorem q5_18 : Cond.instanceMethod yX7_ahead ∈ tbG := gq5 (List.mem_of_getElem? (i := 18) (by decide +kernel)) (by decide +kernel)
theorem q5_19 : Cond.selects RX7 yX7_ahead yX7_ahead ∈ tbG := gq5 (List.mem_of_getElem? (i := 19) (by decide +kernel)) (by decide +kernel)
theorem q5_20 : Cond.code yX7_ahead cX7_ahead 4 (some .int) ∈ tbG := gq5 (List.mem_of_getElem? (i := 20) rfl) rfl
theorem q5_21 : Cond.constantLong RX7 170 (60 : Int64) ∈ tbG := gq5 (List.mem_of_getElem? (i := 21) (by decide +kernel)) (by decide +kernel)
theorem q5_22 : Cond.methodLink RX7 172 yX7_tries ∈ tbG := gq5 (List.mem_of_getElem? (i := 22) (by decide +kernel)) (by decide +kernel)
theorem q5_24 : Cond.instanceMethod yX7_tries ∈ tbG := gq5 (List.mem_of_getElem? (i := 24) (by decide +kernel)) (by decide +kernel)
theorem q5_25 : Cond.code yX7_tries cX7_tries 1 none ∈ tbG := gq5 (List.mem_of_getElem? (i := 25) rfl) rfl
theorem q5_26 : Cond.methodLink RX7 175 yX7_goesOn ∈ tbG := gq5 (List.mem_of_getElem? (i := 26) (by decide +kernel)) (by decide +kernel)
theorem q5_28 : Cond.instanceMethod yX7_goesOn ∈ tbG := gq5 (List.mem_of_getElem? (i := 28) (by decide +kernel)) (by decide +kernel)
theorem q5_29 : Cond.code yX7_goesOn cX7_goesOn 3 none ∈ tbG := gq5 (List.mem_of_getElem? (i := 29) rfl) rfl
theorem q5_30 : Cond.methodLink RL 89 yX7_heard ∈ tbG := gq5 (List.mem_of_getElem? (i := 30) (by decide +kernel)) (by decide +kernel)
theorem q5_31 : Cond.instanceMethod yX7_heard ∈ tbG := gq5 (List.mem_of_getElem? (i := 31) (by decide +kernel)) (by decide +kernel)
theorem q5_32 : Cond.selects RX7 yX7_heard yX7_heard ∈ tbG := gq5 (List.mem_of_getElem? (i := 32) (by decide +kernel)) (by decide +kernel)
theorem q5_33 : Cond.code yX7_heard cX7_heard 3 (some .int) ∈ tbG := gq5 (List.mem_of_getElem? (i := 33) rfl) rfl
theorem q5_34 : Cond.constantLong RX7 178 (3 : Int64) ∈ tbG := gq5 (List.mem_of_getElem? (i := 34) (by decide +kernel)) (by decide +kernel)
theorem q5_35 : Cond.methodLink RL 93 yX7_when ∈ tbG := gq5 (List.mem_of_getElem? (i := 35) (by decide +kernel)) (by decide +kernel)
theorem q5_36 : Cond.instanceMethod yX7_when ∈ tbG := gq5 (List.mem_of_getElem? (i := 36) (by decide +kernel)) (by decide +kernel)
theorem q5_37 : Cond.selects RX7 yX7_when yX7_when ∈ tbG := gq5 (List.mem_of_getElem? (i := 37) (by decide +kernel)) (by decide +kernel)
theorem q5_38 : Cond.code yX7_when cX7_when 4 (some .int) ∈ tbG := gq5 (List.mem_of_getElem? (i := 38) rfl) rfl
theorem q5_39 : Cond.constant RX7 180 (-1000000 : Int32) ∈ tbG := gq5 (List.mem_of_getElem? (i := 39) (by decide +kernel)) (by decide +kernel)
theorem q5_40 : Cond.methodLink RL 97 yX7_stops ∈ tbG := gq5 (List.mem_of_getElem? (i := 40) (by decide +kernel)) (by decide +kernel)
theorem q5_41 : Cond.instanceMethod yX7_stops ∈ tbG := gq5 (List.mem_of_getElem? (i := 41) (by decide +kernel)) (by decide +kernel)
theorem q5_42 : Cond.selects RX7 yX7_stops yX7_stops ∈ tbG := gq5 (List.mem_of_getElem? (i := 42) (by decide +kernel)) (by decide +kernel)
theorem q5_43 : Cond.code yX7_stops cX7_stops 2 (some .int) ∈ tbG := gq5 (List.mem_of_getElem? (i := 43) rfl) rfl
theorem q5_44 : Cond.methodLink RL 101 yX7_bestPin ∈ tbG := gq5 (List.mem_of_getElem? (i := 44) (by decide +kernel)) (by decide +kernel)
theorem q5_45 : Cond.instanceMethod yX7_bestPin ∈ tbG := gq5 (List.mem_of_getElem? (i := 45) (by decide +kernel)) (by decide +kernel)
theorem q5_46 : Cond.selects RX7 yX7_bestPin yX7_bestPin ∈ tbG := gq5 (List.mem_of_getElem? (i := 46) (by decide +kernel)) (by decide +kernel)
theorem q5_47 : Cond.code yX7_bestPin cX7_bestPin 8 (some .int) ∈ tbG := gq5 (List.mem_of_getElem? (i := 47) rfl) rfl
theorem q5_48 : Cond.constantLong RX7 181 (20 : Int64) ∈ tbG := gq5 (List.mem_of_getElem? (i := 48) (by decide +kernel)) (by decide +kernel)
theorem q5_49 : Cond.methodLink RX7 183 yX7_sumOf ∈ tbG := gq5 (List.mem_of_getElem? (i := 49) (by decide +kernel)) (by decide +kernel)
theorem q5_51 : Cond.instanceMethod yX7_sumOf ∈ tbG := gq5 (List.mem_of_getElem? (i := 51) (by decide +kernel)) (by decide +kernel)
theorem q5_52 : Cond.code yX7_sumOf cX7_sumOf 4 (some .int) ∈ tbG := gq5 (List.mem_of_getElem? (i := 52) rfl) rfl
theorem q5_53 : Cond.methodLink RL 105 yX7_begin ∈ tbG := gq5 (List.mem_of_getElem? (i := 53) (by decide +kernel)) (by decide +kernel)
theorem q5_54 : Cond.instanceMethod yX7_begin ∈ tbG := gq5 (List.mem_of_getElem? (i := 54) (by decide +kernel)) (by decide +kernel)
theorem q5_55 : Cond.selects RX7 yX7_begin yX7_begin ∈ tbG := gq5 (List.mem_of_getElem? (i := 55) (by decide +kernel)) (by decide +kernel)
theorem q5_56 : Cond.code yX7_begin cX7_begin 7 (some .int) ∈ tbG := gq5 (List.mem_of_getElem? (i := 56) rfl) rfl
theorem q5_57 : Cond.constantLong RX7 186 (40 : Int64) ∈ tbG := gq5 (List.mem_of_getElem? (i := 57) (by decide +kernel)) (by decide +kernel)
theorem q5_58 : Cond.methodLink RL 109 yX7_least ∈ tbG := gq5 (List.mem_of_getElem? (i := 58) (by decide +kernel)) (by decide +kernel)
theorem q5_59 : Cond.instanceMethod yX7_least ∈ tbG := gq5 (List.mem_of_getElem? (i := 59) (by decide +kernel)) (by decide +kernel)
theorem q5_60 : Cond.selects RX7 yX7_least yX7_least ∈ tbG := gq5 (List.mem_of_getElem? (i := 60) (by decide +kernel)) (by decide +kernel)
theorem q5_61 : Cond.code yX7_least cX7_least 3 (some .int) ∈ tbG := gq5 (List.mem_of_getElem? (i := 61) rfl) rfl
theorem q5_62 : Cond.methodLink RL 113 yX7_tune ∈ tbG := gq5 (List.mem_of_getElem? (i := 62) (by decide +kernel)) (by decide +kernel)
theorem q5_63 : Cond.instanceMethod yX7_tune ∈ tbG := gq5 (List.mem_of_getElem? (i := 63) (by decide +kernel)) (by decide +kernel)
theorem q5_64 : Cond.selects RX7 yX7_tune yX7_tune ∈ tbG := gq5 (List.mem_of_getElem? (i := 64) (by decide +kernel)) (by decide +kernel)
theorem q5_65 : Cond.code yX7_tune cX7_tune 10 (some .int) ∈ tbG := gq5 (List.mem_of_getElem? (i := 65) rfl) rfl
theorem q5_66 : Cond.constantLong RX7 188 (12 : Int64) ∈ tbG := gq5 (List.mem_of_getElem? (i := 66) (by decide +kernel)) (by decide +kernel)
theorem q5_67 : Cond.methodLink RL 117 yX7_sets ∈ tbG := gq5 (List.mem_of_getElem? (i := 67) (by decide +kernel)) (by decide +kernel)
theorem q5_68 : Cond.instanceMethod yX7_sets ∈ tbG := gq5 (List.mem_of_getElem? (i := 68) (by decide +kernel)) (by decide +kernel)
theorem q5_69 : Cond.selects RX7 yX7_sets yX7_sets ∈ tbG := gq5 (List.mem_of_getElem? (i := 69) (by decide +kernel)) (by decide +kernel)
theorem q5_70 : Cond.code yX7_sets cX7_sets 9 (some .int) ∈ tbG := gq5 (List.mem_of_getElem? (i := 70) rfl) rfl
theorem q5_71 : Cond.methodLink RL 121 yX7_share ∈ tbG := gq5 (List.mem_of_getElem? (i := 71) (by decide +kernel)) (by decide +kernel)
theorem q5_72 : Cond.instanceMethod yX7_share ∈ tbG := gq5 (List.mem_of_getElem? (i := 72) (by decide +kernel)) (by decide +kernel)
theorem q5_73 : Cond.selects RX7 yX7_share yX7_share ∈ tbG := gq5 (List.mem_of_getElem? (i := 73) (by decide +kernel)) (by decide +kernel)
theorem q5_74 : Cond.code yX7_share cX7_share 8 (some .int) ∈ tbG := gq5 (List.mem_of_getElem? (i := 74) rfl) rfl
theorem q5_75 : Cond.constantLong RX7 190 (999 : Int64) ∈ tbG := gq5 (List.mem_of_getElem? (i := 75) (by decide +kernel)) (by decide +kernel)
theorem q5_76 : Cond.methodLink RL 125 yX7_byTurns ∈ tbG := gq5 (List.mem_of_getElem? (i := 76) (by decide +kernel)) (by decide +kernel)
theorem q5_77 : Cond.instanceMethod yX7_byTurns ∈ tbG := gq5 (List.mem_of_getElem? (i := 77) (by decide +kernel)) (by decide +kernel)
theorem q5_78 : Cond.selects RX7 yX7_byTurns yX7_byTurns ∈ tbG := gq5 (List.mem_of_getElem? (i := 78) (by decide +kernel)) (by decide +kernel)
theorem q5_79 : Cond.code yX7_byTurns cX7_byTurns 9 (some .int) ∈ tbG := gq5 (List.mem_of_getElem? (i := 79) rfl) rfl
theorem q5_80 : Cond.constantLong RX7 192 (4 : Int64) ∈ tbG := gq5 (List.mem_of_getElem? (i := 80) (by decide +kernel)) (by decide +kernel)
theorem q5_81 : Cond.methodLink RX7 194 yX7_loudBy ∈ tbG := gq5 (List.mem_of_getElem? (i := 81) (by decide +kernel)) (by decide +kernel)
theorem q5_83 : Cond.instanceMethod yX7_loudBy ∈ tbG := gq5 (List.mem_of_getElem? (i := 83) (by decide +kernel)) (by decide +kernel)
theorem q5_84 : Cond.code yX7_loudBy cX7_loudBy 6 (some .int) ∈ tbG := gq5 (List.mem_of_getElem? (i := 84) rfl) rfl
theorem q5_85 : Cond.methodLink RL 129 yX7_who ∈ tbG := gq5 (List.mem_of_getElem? (i := 85) (by decide +kernel)) (by decide +kernel)
theorem q5_86 : Cond.instanceMethod yX7_who ∈ tbG := gq5 (List.mem_of_getElem? (i := 86) (by decide +kernel)) (by decide +kernel)
theorem q5_87 : Cond.selects RX7 yX7_who yX7_who ∈ tbG := gq5 (List.mem_of_getElem? (i := 87) (by decide +kernel)) (by decide +kernel)
theorem q5_88 : Cond.code yX7_who cX7_who 15 (some .int) ∈ tbG := gq5 (List.mem_of_getElem? (i := 88) rfl) rfl
theorem q5_89 : Cond.methodLink RX7 197 yX7_isSo ∈ tbG := gq5 (List.mem_of_getElem? (i := 89) (by decide +kernel)) (by decide +kernel)
theorem q5_91 : Cond.instanceMethod yX7_isSo ∈ tbG := gq5 (List.mem_of_getElem? (i := 91) (by decide +kernel)) (by decide +kernel)
theorem q5_92 : Cond.code yX7_isSo cX7_isSo 5 (some .boolean) ∈ tbG := gq5 (List.mem_of_getElem? (i := 92) rfl) rfl
theorem q5_93 : Cond.methodLink RL 134 yX7_lost ∈ tbG := gq5 (List.mem_of_getElem? (i := 93) (by decide +kernel)) (by decide +kernel)
theorem q5_94 : Cond.instanceMethod yX7_lost ∈ tbG := gq5 (List.mem_of_getElem? (i := 94) (by decide +kernel)) (by decide +kernel)
theorem q5_95 : Cond.selects RX7 yX7_lost yX7_lost ∈ tbG := gq5 (List.mem_of_getElem? (i := 95) (by decide +kernel)) (by decide +kernel)
theorem q5_96 : Cond.code yX7_lost cX7_lost 16 (some .long) ∈ tbG := gq5 (List.mem_of_getElem? (i := 96) rfl) rfl
theorem q5_97 : Cond.constantLong RX7 200 (10 : Int64) ∈ tbG := gq5 (List.mem_of_getElem? (i := 97) (by decide +kernel)) (by decide +kernel)
theorem q5_98 : Cond.constantLong RX7 202 (-1000001 : Int64) ∈ tbG := gq5 (List.mem_of_getElem? (i := 98) (by decide +kernel)) (by decide +kernel)
theorem q5_99 : Cond.methodLink RL 138 yX7_drawn ∈ tbG := gq5 (List.mem_of_getElem? (i := 99) (by decide +kernel)) (by decide +kernel)
theorem q5_100 : Cond.instanceMethod yX7_drawn ∈ tbG := gq5 (List.mem_of_getElem? (i := 100) (by decide +kernel)) (by decide +kernel)
theorem q5_101 : Cond.selects RX7 yX7_drawn yX7_drawn ∈ tbG := gq5 (List.mem_of_getElem? (i := 101) (by decide +kernel)) (by decide +kernel)
theorem q5_102 : Cond.code yX7_drawn cX7_drawn 9 (some .int) ∈ tbG := gq5 (List.mem_of_getElem? (i := 102) rfl) rfl
theorem q5_103 : Cond.constantLong RX7 204 (999999 : Int64) ∈ tbG := gq5 (List.mem_of_getElem? (i := 103) (by decide +kernel)) (by decide +kernel)
theorem q5_104 : Cond.constantLong RX7 206 (16807 : Int64) ∈ tbG := gq5 (List.mem_of_getElem? (i := 104) (by decide +kernel)) (by decide +kernel)
theorem q5_105 : Cond.constantLong RX7 208 (2147483647 : Int64) ∈ tbG := gq5 (List.mem_of_getElem? (i := 105) (by decide +kernel)) (by decide +kernel)
theorem q5_106 : Cond.constantLong RX7 210 (30 : Int64) ∈ tbG := gq5 (List.mem_of_getElem? (i := 106) (by decide +kernel)) (by decide +kernel)
theorem q5_107 : Cond.constantLong RX7 212 (64 : Int64) ∈ tbG := gq5 (List.mem_of_getElem? (i := 107) (by decide +kernel)) (by decide +kernel)
theorem q5_108 : Cond.methodLink RL 142 yX7_image ∈ tbG := gq5 (List.mem_of_getElem? (i := 108) (by decide +kernel)) (by decide +kernel)
theorem q5_109 : Cond.instanceMethod yX7_image ∈ tbG := gq5 (List.mem_of_getElem? (i := 109) (by decide +kernel)) (by decide +kernel)
theorem q5_110 : Cond.selects RX7 yX7_image yX7_image ∈ tbG := gq5 (List.mem_of_getElem? (i := 110) (by decide +kernel)) (by decide +kernel)
theorem q5_111 : Cond.code yX7_image cX7_image 2 (some .int) ∈ tbG := gq5 (List.mem_of_getElem? (i := 111) rfl) rfl
theorem q5_112 : Cond.methodLink RL 146 yX7_restore ∈ tbG := gq5 (List.mem_of_getElem? (i := 112) (by decide +kernel)) (by decide +kernel)
theorem q5_113 : Cond.instanceMethod yX7_restore ∈ tbG := gq5 (List.mem_of_getElem? (i := 113) (by decide +kernel)) (by decide +kernel)
theorem q5_114 : Cond.selects RX7 yX7_restore yX7_restore ∈ tbG := gq5 (List.mem_of_getElem? (i := 114) (by decide +kernel)) (by decide +kernel)
theorem q5_115 : Cond.code yX7_restore cX7_restore 2 (some .int) ∈ tbG := gq5 (List.mem_of_getElem? (i := 115) rfl) rfl
theorem q5_116 : Cond.methodLink RL 150 yX7_kind ∈ tbG := gq5 (List.mem_of_getElem? (i := 116) (by decide +kernel)) (by decide +kernel)
theorem q5_117 : Cond.instanceMethod yX7_kind ∈ tbG := gq5 (List.mem_of_getElem? (i := 117) (by decide +kernel)) (by decide +kernel)
theorem q5_118 : Cond.selects RX7 yX7_kind yX7_kind ∈ tbG := gq5 (List.mem_of_getElem? (i := 118) (by decide +kernel)) (by decide +kernel)
theorem q5_119 : Cond.code yX7_kind cX7_kind 2 (some .int) ∈ tbG := gq5 (List.mem_of_getElem? (i := 119) rfl) rfl
theorem q5_120 : Cond.methodLink RL 154 yX7_as ∈ tbG := gq5 (List.mem_of_getElem? (i := 120) (by decide +kernel)) (by decide +kernel)
theorem q5_121 : Cond.instanceMethod yX7_as ∈ tbG := gq5 (List.mem_of_getElem? (i := 121) (by decide +kernel)) (by decide +kernel)
theorem q5_122 : Cond.selects RX7 yX7_as yX7_as ∈ tbG := gq5 (List.mem_of_getElem? (i := 122) (by decide +kernel)) (by decide +kernel)
theorem q5_123 : Cond.code yX7_as cX7_as 3 (some .int) ∈ tbG := gq5 (List.mem_of_getElem? (i := 123) rfl) rfl
theorem q5_124 : Cond.constantLong RX7 214 (5 : Int64) ∈ tbG := gq5 (List.mem_of_getElem? (i := 124) (by decide +kernel)) (by decide +kernel)
theorem q5_125 : Cond.methodLink RX7 216 yX7_isA ∈ tbG := gq5 (List.mem_of_getElem? (i := 125) (by decide +kernel)) (by decide +kernel)
theorem q5_126 : Cond.static yX7_isA ∈ tbG := gq5 (List.mem_of_getElem? (i := 126) (by decide +kernel)) (by decide +kernel)
theorem q5_127 : Cond.code yX7_isA cX7_isA 2 (some .boolean) ∈ tbG := gq5 (List.mem_of_getElem? (i := 127) rfl) rfl
theorem q5_128 : Cond.methodLink RL 158 yX7_ask ∈ tbG := gq5 (List.mem_of_getElem? (i := 128) (by decide +kernel)) (by decide +kernel)
theorem q5_129 : Cond.instanceMethod yX7_ask ∈ tbG := gq5 (List.mem_of_getElem? (i := 129) (by decide +kernel)) (by decide +kernel)
theorem q5_130 : Cond.selects RX7 yX7_ask yX7_ask ∈ tbG := gq5 (List.mem_of_getElem? (i := 130) (by decide +kernel)) (by decide +kernel)
theorem q5_131 : Cond.code yX7_ask cX7_ask 3 (some .int) ∈ tbG := gq5 (List.mem_of_getElem? (i := 131) rfl) rfl
theorem q5_132 : Cond.methodLink RX7 243 yX7_sizeOf ∈ tbG := gq5 (List.mem_of_getElem? (i := 132) (by decide +kernel)) (by decide +kernel)
theorem q5_134 : Cond.instanceMethod yX7_sizeOf ∈ tbG := gq5 (List.mem_of_getElem? (i := 134) (by decide +kernel)) (by decide +kernel)
theorem q5_135 : Cond.code yX7_sizeOf cX7_sizeOf 2 (some .int) ∈ tbG := gq5 (List.mem_of_getElem? (i := 135) rfl) rfl
theorem q5_136 : Cond.methodLink RX7 222 yX7_traces ∈ tbG := gq5 (List.mem_of_getElem? (i := 136) (by decide +kernel)) (by decide +kernel)
theorem q5_138 : Cond.instanceMethod yX7_traces ∈ tbG := gq5 (List.mem_of_getElem? (i := 138) (by decide +kernel)) (by decide +kernel)
theorem q5_139 : Cond.code yX7_traces cX7_traces 2 none ∈ tbG := gq5 (List.mem_of_getElem? (i := 139) rfl) rfl
theorem q5_140 : Cond.methodLink RX7 231 yX7_size11 ∈ tbG := gq5 (List.mem_of_getElem? (i := 140) (by decide +kernel)) (by decide +kernel)
theorem q5_142 : Cond.instanceMethod yX7_size11 ∈ tbG := gq5 (List.mem_of_getElem? (i := 142) (by decide +kernel)) (by decide +kernel)
theorem q5_143 : Cond.code yX7_size11 cX7_size11 3 (some .int) ∈ tbG := gq5 (List.mem_of_getElem? (i := 143) rfl) rfl
theorem q5_144 : Cond.methodLink RX7 225 yX7_size10 ∈ tbG := gq5 (List.mem_of_getElem? (i := 144) (by decide +kernel)) (by decide +kernel)
theorem q5_146 : Cond.instanceMethod yX7_size10 ∈ tbG := gq5 (List.mem_of_getElem? (i := 146) (by decide +kernel)) (by decide +kernel)
theorem q5_147 : Cond.code yX7_size10 cX7_size10 2 (some .int) ∈ tbG := gq5 (List.mem_of_getElem? (i := 147) rfl) rfl
theorem q5_148 : Cond.methodLink RX7 228 yX7_markOf ∈ tbG := gq5 (List.mem_of_getElem? (i := 148) (by decide +kernel)) (by decide +kernel)
theorem q5_150 : Cond.instanceMethod yX7_markOf ∈ tbG := gq5 (List.mem_of_getElem? (i := 150) (by decide +kernel)) (by decide +kernel)
theorem q5_151 : Cond.code yX7_markOf cX7_markOf 2 (some .int) ∈ tbG := gq5 (List.mem_of_getElem? (i := 151) rfl) rfl
theorem q5_152 : Cond.methodLink RX7 240 yX7_mark21 ∈ tbG := gq5 (List.mem_of_getElem? (i := 152) (by decide +kernel)) (by decide +kernel)
theorem q5_154 : Cond.instanceMethod yX7_mark21 ∈ tbG := gq5 (List.mem_of_getElem? (i := 154) (by decide +kernel)) (by decide +kernel)
theorem q5_155 : Cond.code yX7_mark21 cX7_mark21 2 (some .int) ∈ tbG := gq5 (List.mem_of_getElem? (i := 155) rfl) rfl
theorem q5_156 : Cond.methodLink RX7 237 yX7_mark20 ∈ tbG := gq5 (List.mem_of_getElem? (i := 156) (by decide +kernel)) (by decide +kernel)
theorem q5_158 : Cond.instanceMethod yX7_mark20 ∈ tbG := gq5 (List.mem_of_getElem? (i := 158) (by decide +kernel)) (by decide +kernel)
theorem q5_159 : Cond.code yX7_mark20 cX7_mark20 2 (some .int) ∈ tbG := gq5 (List.mem_of_getElem? (i := 159) rfl) rfl
theorem q5_160 : Cond.methodLink RX7 234 yX7_size13 ∈ tbG := gq5 (List.mem_of_getElem? (i := 160) (by decide +kernel)) (by decide +kernel)
theorem q5_162 : Cond.instanceMethod yX7_size13 ∈ tbG := gq5 (List.mem_of_getElem? (i := 162) (by decide +kernel)) (by decide +kernel)
theorem q5_163 : Cond.code yX7_size13 cX7_size13 2 (some .int) ∈ tbG := gq5 (List.mem_of_getElem? (i := 163) rfl) rfl
theorem q5_164 : Cond.methodLink RX7 246 yX7_mark23 ∈ tbG := gq5 (List.mem_of_getElem? (i := 164) (by decide +kernel)) (by decide +kernel)
theorem q5_166 : Cond.instanceMethod yX7_mark23 ∈ tbG := gq5 (List.mem_of_getElem? (i := 166) (by decide +kernel)) (by decide +kernel)
theorem q5_167 : Cond.code yX7_mark23 cX7_mark23 3 (some .int) ∈ tbG := gq5 (List.mem_of_getElem? (i := 167) rfl) rfl
theorem q5_168 : Cond.methodLink RL 162 yX7_trace ∈ tbG := gq5 (List.mem_of_getElem? (i := 168) (by decide +kernel)) (by decide +kernel)
theorem q5_169 : Cond.instanceMethod yX7_trace ∈ tbG := gq5 (List.mem_of_getElem? (i := 169) (by decide +kernel)) (by decide +kernel)
theorem q5_170 : Cond.selects RX7 yX7_trace yX7_trace ∈ tbG := gq5 (List.mem_of_getElem? (i := 170) (by decide +kernel)) (by decide +kernel)
theorem q5_171 : Cond.code yX7_trace cX7_trace 2 (some .int) ∈ tbG := gq5 (List.mem_of_getElem? (i := 171) rfl) rfl
theorem q5_172 : Cond.methodLink RL 166 yX7_count ∈ tbG := gq5 (List.mem_of_getElem? (i := 172) (by decide +kernel)) (by decide +kernel)
theorem q5_173 : Cond.instanceMethod yX7_count ∈ tbG := gq5 (List.mem_of_getElem? (i := 173) (by decide +kernel)) (by decide +kernel)
theorem q5_174 : Cond.selects RX7 yX7_count yX7_count ∈ tbG := gq5 (List.mem_of_getElem? (i := 174) (by decide +kernel)) (by decide +kernel)
theorem q5_175 : Cond.code yX7_count cX7_count 2 (some .int) ∈ tbG := gq5 (List.mem_of_getElem? (i := 175) rfl) rfl
theorem q5_176 : Cond.methodLink RX7 249 yX7_rowsThere ∈ tbG := gq5 (List.mem_of_getElem? (i := 176) (by decide +kernel)) (by decide +kernel)
theorem q5_178 : Cond.instanceMethod yX7_rowsThere ∈ tbG := gq5 (List.mem_of_getElem? (i := 178) (by decide +kernel)) (by decide +kernel)
theorem q5_179 : Cond.code yX7_rowsThere cX7_rowsThere 3 (some .int) ∈ tbG := gq5 (List.mem_of_getElem? (i := 179) rfl) rfl
theorem q5_180 : Cond.methodLink RX7 252 yX7_pluckedAll ∈ tbG := gq5 (List.mem_of_getElem? (i := 180) (by decide +kernel)) (by decide +kernel)
theorem q5_182 : Cond.instanceMethod yX7_pluckedAll ∈ tbG := gq5 (List.mem_of_getElem? (i := 182) (by decide +kernel)) (by decide +kernel)
theorem q5_183 : Cond.code yX7_pluckedAll cX7_pluckedAll 3 (some .int) ∈ tbG := gq5 (List.mem_of_getElem? (i := 183) rfl) rfl
theorem q5_184 : Cond.methodLink RL 170 yX7_status ∈ tbG := gq5 (List.mem_of_getElem? (i := 184) (by decide +kernel)) (by decide +kernel)
theorem q5_185 : Cond.instanceMethod yX7_status ∈ tbG := gq5 (List.mem_of_getElem? (i := 185) (by decide +kernel)) (by decide +kernel)
theorem q5_186 : Cond.selects RX7 yX7_status yX7_status ∈ tbG := gq5 (List.mem_of_getElem? (i := 186) (by decide +kernel)) (by decide +kernel)
theorem q5_187 : Cond.code yX7_status cX7_status 1 (some .int) ∈ tbG := gq5 (List.mem_of_getElem? (i := 187) rfl) rfl
theorem q0_0 : Cond.selects RX6 yX6_found yX6_found ∈ tbG := gq0 (List.mem_of_getElem? (i := 0) (by decide +kernel)) (by decide +kernel)
theorem q0_1 : Cond.selects RX6 yX6_unfound yX6_unfound ∈ tbG := gq0 (List.mem_of_getElem? (i := 1) (by decide +kernel)) (by decide +kernel)
theorem q0_2 : Cond.selects RX2 yX2_cut yX2_cut ∈ tbG := gq0 (List.mem_of_getElem? (i := 2) (by decide +kernel)) (by decide +kernel)
theorem q0_3 : Cond.selects RX4 yX4_readLaw yX4_readLaw ∈ tbG := gq0 (List.mem_of_getElem? (i := 3) (by decide +kernel)) (by decide +kernel)
theorem q0_4 : Cond.selects RX4 yX4_take yX4_take ∈ tbG := gq0 (List.mem_of_getElem? (i := 4) (by decide +kernel)) (by decide +kernel)
theorem q0_5 : Cond.selects RX4 yX4_coming yX4_coming ∈ tbG := gq0 (List.mem_of_getElem? (i := 5) (by decide +kernel)) (by decide +kernel)
theorem q0_6 : Cond.selects RX4 yX4_fail yX4_fail ∈ tbG := gq0 (List.mem_of_getElem? (i := 6) (by decide +kernel)) (by decide +kernel)
theorem q0_7 : Cond.selects RX4 yX4_takeNumber yX4_takeNumber ∈ tbG := gq0 (List.mem_of_getElem? (i := 7) (by decide +kernel)) (by decide +kernel)
theorem q0_8 : Cond.selects RX4 yX4_readColumns yX4_readColumns ∈ tbG := gq0 (List.mem_of_getElem? (i := 8) (by decide +kernel)) (by decide +kernel)
theorem q0_9 : Cond.selects RX4 yX4_readTeeth yX4_readTeeth ∈ tbG := gq0 (List.mem_of_getElem? (i := 9) (by decide +kernel)) (by decide +kernel)
theorem q0_10 : Cond.selects RX6 yX6_hasBox yX6_hasBox ∈ tbG := gq0 (List.mem_of_getElem? (i := 10) (by decide +kernel)) (by decide +kernel)
theorem q0_11 : Cond.selects RX5 yX5_pluck yX5_pluck ∈ tbG := gq0 (List.mem_of_getElem? (i := 11) (by decide +kernel)) (by decide +kernel)
theorem q0_12 : Cond.selects RX5 yX5_stir yX5_stir ∈ tbG := gq0 (List.mem_of_getElem? (i := 12) (by decide +kernel)) (by decide +kernel)
theorem q0_13 : Cond.selects RX6 yX6_hasColumn yX6_hasColumn ∈ tbG := gq0 (List.mem_of_getElem? (i := 13) (by decide +kernel)) (by decide +kernel)
theorem q0_14 : Cond.selects RX6 yX6_hasTooth yX6_hasTooth ∈ tbG := gq0 (List.mem_of_getElem? (i := 14) (by decide +kernel)) (by decide +kernel)
theorem q0_15 : Cond.selects RX3 yX3_tryAhead yX3_tryAhead ∈ tbG := gq0 (List.mem_of_getElem? (i := 15) (by decide +kernel)) (by decide +kernel)
theorem q0_16 : Cond.selects RX3 yX3_standsFrom yX3_standsFrom ∈ tbG := gq0 (List.mem_of_getElem? (i := 16) (by decide +kernel)) (by decide +kernel)
theorem q0_17 : Cond.selects RX3 yX3_loudOf yX3_loudOf ∈ tbG := gq0 (List.mem_of_getElem? (i := 17) (by decide +kernel)) (by decide +kernel)
theorem q0_18 : Cond.selects RX3 yX3_wear yX3_wear ∈ tbG := gq0 (List.mem_of_getElem? (i := 18) (by decide +kernel)) (by decide +kernel)
theorem q0_19 : Cond.selects RX3 yX3_outcome yX3_outcome ∈ tbG := gq0 (List.mem_of_getElem? (i := 19) (by decide +kernel)) (by decide +kernel)
theorem q0_20 : Cond.selects RX3 yX3_loudBehindTurns yX3_loudBehindTurns ∈ tbG := gq0 (List.mem_of_getElem? (i := 20) (by decide +kernel)) (by decide +kernel)
theorem q0_21 : Cond.selects RX3 yX3_kindsThatFit yX3_kindsThatFit ∈ tbG := gq0 (List.mem_of_getElem? (i := 21) (by decide +kernel)) (by decide +kernel)
theorem q0_22 : Cond.selects RX3 yX3_trialIsHeardAs yX3_trialIsHeardAs ∈ tbG := gq0 (List.mem_of_getElem? (i := 22) (by decide +kernel)) (by decide +kernel)
theorem q0_23 : Cond.selects RX3 yX3_tuningsThatFit yX3_tuningsThatFit ∈ tbG := gq0 (List.mem_of_getElem? (i := 23) (by decide +kernel)) (by decide +kernel)
theorem q0_24 : Cond.selects RX3 yX3_columnsThatFit yX3_columnsThatFit ∈ tbG := gq0 (List.mem_of_getElem? (i := 24) (by decide +kernel)) (by decide +kernel)
theorem q0_25 : Cond.selects RX3 yX3_springsThatFit yX3_springsThatFit ∈ tbG := gq0 (List.mem_of_getElem? (i := 25) (by decide +kernel)) (by decide +kernel)
theorem q0_26 : Cond.selects RX3 yX3_weightOfRinging yX3_weightOfRinging ∈ tbG := gq0 (List.mem_of_getElem? (i := 26) (by decide +kernel)) (by decide +kernel)
theorem q0_27 : Cond.selects RX3 yX3_draw yX3_draw ∈ tbG := gq0 (List.mem_of_getElem? (i := 27) (by decide +kernel)) (by decide +kernel)
theorem q0_28 : Cond.selects RX0 yX0_answer yX0_answer ∈ tbG := gq0 (List.mem_of_getElem? (i := 28) (by decide +kernel)) (by decide +kernel)
theorem q0_29 : Cond.selects RX0 yX0_body yX0_body ∈ tbG := gq0 (List.mem_of_getElem? (i := 29) (by decide +kernel)) (by decide +kernel)
theorem q0_30 : Cond.selects RX0 yX0_leave yX0_leave ∈ tbG := gq0 (List.mem_of_getElem? (i := 30) (by decide +kernel)) (by decide +kernel)
theorem q0_31 : Cond.selects RX6 yX6_rowsThere yX6_rowsThere ∈ tbG := gq0 (List.mem_of_getElem? (i := 31) (by decide +kernel)) (by decide +kernel)
theorem q0_32 : Cond.selects RX7 yX7_finds yX7_finds ∈ tbG := gq0 (List.mem_of_getElem? (i := 32) (by decide +kernel)) (by decide +kernel)
theorem q0_33 : Cond.selects RX7 yX7_against yX7_against ∈ tbG := gq0 (List.mem_of_getElem? (i := 33) (by decide +kernel)) (by decide +kernel)
theorem q0_34 : Cond.selects RX7 yX7_takesAll yX7_takesAll ∈ tbG := gq0 (List.mem_of_getElem? (i := 34) (by decide +kernel)) (by decide +kernel)
theorem q0_35 : Cond.selects RX7 yX7_takesLaw yX7_takesLaw ∈ tbG := gq0 (List.mem_of_getElem? (i := 35) (by decide +kernel)) (by decide +kernel)
theorem q0_36 : Cond.selects RX7 yX7_takes yX7_takes ∈ tbG := gq0 (List.mem_of_getElem? (i := 36) (by decide +kernel)) (by decide +kernel)
theorem q0_37 : Cond.selects RX7 yX7_here yX7_here ∈ tbG := gq0 (List.mem_of_getElem? (i := 37) (by decide +kernel)) (by decide +kernel)
theorem q0_38 : Cond.selects RX7 yX7_fails yX7_fails ∈ tbG := gq0 (List.mem_of_getElem? (i := 38) (by decide +kernel)) (by decide +kernel)
theorem q0_39 : Cond.selects RX7 yX7_takesNumber yX7_takesNumber ∈ tbG := gq0 (List.mem_of_getElem? (i := 39) (by decide +kernel)) (by decide +kernel)
theorem q0_40 : Cond.selects RX7 yX7_takesColumn yX7_takesColumn ∈ tbG := gq0 (List.mem_of_getElem? (i := 40) (by decide +kernel)) (by decide +kernel)
theorem q0_41 : Cond.selects RX7 yX7_takesTooth yX7_takesTooth ∈ tbG := gq0 (List.mem_of_getElem? (i := 41) (by decide +kernel)) (by decide +kernel)
theorem q0_42 : Cond.selects RX7 yX7_copyOf yX7_copyOf ∈ tbG := gq0 (List.mem_of_getElem? (i := 42) (by decide +kernel)) (by decide +kernel)
theorem q0_43 : Cond.selects RX7 yX7_isBox yX7_isBox ∈ tbG := gq0 (List.mem_of_getElem? (i := 43) (by decide +kernel)) (by decide +kernel)
theorem q0_44 : Cond.selects RX7 yX7_minds yX7_minds ∈ tbG := gq0 (List.mem_of_getElem? (i := 44) (by decide +kernel)) (by decide +kernel)
theorem q0_45 : Cond.selects RX7 yX7_passes yX7_passes ∈ tbG := gq0 (List.mem_of_getElem? (i := 45) (by decide +kernel)) (by decide +kernel)
theorem q0_46 : Cond.selects RX7 yX7_fades yX7_fades ∈ tbG := gq0 (List.mem_of_getElem? (i := 46) (by decide +kernel)) (by decide +kernel)
theorem q0_47 : Cond.selects RX7 yX7_plucks yX7_plucks ∈ tbG := gq0 (List.mem_of_getElem? (i := 47) (by decide +kernel)) (by decide +kernel)
theorem q0_48 : Cond.selects RX7 yX7_loud yX7_loud ∈ tbG := gq0 (List.mem_of_getElem? (i := 48) (by decide +kernel)) (by decide +kernel)
theorem q0_49 : Cond.selects RX7 yX7_isColumn yX7_isColumn ∈ tbG := gq0 (List.mem_of_getElem? (i := 49) (by decide +kernel)) (by decide +kernel)
theorem q0_50 : Cond.selects RX7 yX7_isTooth yX7_isTooth ∈ tbG := gq0 (List.mem_of_getElem? (i := 50) (by decide +kernel)) (by decide +kernel)
theorem q0_51 : Cond.selects RX7 yX7_mends yX7_mends ∈ tbG := gq0 (List.mem_of_getElem? (i := 51) (by decide +kernel)) (by decide +kernel)
theorem q0_52 : Cond.selects RX7 yX7_columnsOf yX7_columnsOf ∈ tbG := gq0 (List.mem_of_getElem? (i := 52) (by decide +kernel)) (by decide +kernel)
theorem q0_53 : Cond.selects RX7 yX7_ringing yX7_ringing ∈ tbG := gq0 (List.mem_of_getElem? (i := 53) (by decide +kernel)) (by decide +kernel)
theorem q0_54 : Cond.selects RX7 yX7_tries yX7_tries ∈ tbG := gq0 (List.mem_of_getElem? (i := 54) (by decide +kernel)) (by decide +kernel)
theorem q0_55 : Cond.selects RX7 yX7_goesOn yX7_goesOn ∈ tbG := gq0 (List.mem_of_getElem? (i := 55) (by decide +kernel)) (by decide +kernel)
theorem q0_56 : Cond.selects RX7 yX7_sumOf yX7_sumOf ∈ tbG := gq0 (List.mem_of_getElem? (i := 56) (by decide +kernel)) (by decide +kernel)
theorem q0_57 : Cond.selects RX7 yX7_loudBy yX7_loudBy ∈ tbG := gq0 (List.mem_of_getElem? (i := 57) (by decide +kernel)) (by decide +kernel)
theorem q0_58 : Cond.selects RX7 yX7_isSo yX7_isSo ∈ tbG := gq0 (List.mem_of_getElem? (i := 58) (by decide +kernel)) (by decide +kernel)
theorem q0_59 : Cond.selects RX7 yX7_sizeOf yX7_sizeOf ∈ tbG := gq0 (List.mem_of_getElem? (i := 59) (by decide +kernel)) (by decide +kernel)
theorem q0_60 : Cond.selects RX7 yX7_traces yX7_traces ∈ tbG := gq0 (List.mem_of_getElem? (i := 60) (by decide +kernel)) (by decide +kernel)
theorem q0_61 : Cond.selects RX7 yX7_size11 yX7_size11 ∈ tbG := gq0 (List.mem_of_getElem? (i := 61) (by decide +kernel)) (by decide +kernel)
theorem q0_62 : Cond.selects RX7 yX7_size10 yX7_size10 ∈ tbG := gq0 (List.mem_of_getElem? (i := 62) (by decide +kernel)) (by decide +kernel)
theorem q0_63 : Cond.selects RX7 yX7_markOf yX7_markOf ∈ tbG := gq0 (List.mem_of_getElem? (i := 63) (by decide +kernel)) (by decide +kernel)
theorem q0_64 : Cond.selects RX7 yX7_mark21 yX7_mark21 ∈ tbG := gq0 (List.mem_of_getElem? (i := 64) (by decide +kernel)) (by decide +kernel)
theorem q0_65 : Cond.selects RX7 yX7_mark20 yX7_mark20 ∈ tbG := gq0 (List.mem_of_getElem? (i := 65) (by decide +kernel)) (by decide +kernel)
theorem q0_66 : Cond.selects RX7 yX7_size13 yX7_size13 ∈ tbG := gq0 (List.mem_of_getElem? (i := 66) (by decide +kernel)) (by decide +kernel)
theorem q0_67 : Cond.selects RX7 yX7_mark23 yX7_mark23 ∈ tbG := gq0 (List.mem_of_getElem? (i := 67) (by decide +kernel)) (by decide +kernel)
theorem q0_68 : Cond.selects RX7 yX7_rowsThere yX7_rowsThere ∈ tbG := gq0 (List.mem_of_getElem? (i := 68) (by decide +kernel)) (by decide +kernel)
theorem q0_69 : Cond.selects RX7 yX7_pluckedAll yX7_pluckedAll ∈ tbG := gq0 (List.mem_of_getElem? (i := 69) (by decide +kernel)) (by decide +kernel)
theorem inX0 : ∀ w ∈ u_ws RX0 TX0 3, w ∈ tbG := by decide +kernel
theorem inX1 : ∀ w ∈ u_ws RX1 TX1 3, w ∈ tbG := by decide +kernel
theorem inX2 : ∀ w ∈ u_ws RX2 TX2 4, w ∈ tbG := by decide +kernel
theorem inX3 : ∀ w ∈ u_ws RX3 TX3 3, w ∈ tbG := by decide +kernel
theorem inX4 : ∀ w ∈ u_ws RX4 TX4 5, w ∈ tbG := by decide +kernel
theorem inX5 : ∀ w ∈ u_ws RX5 TX5 11, w ∈ tbG := by decide +kernel
theorem inX6 : ∀ w ∈ u_ws RX6 TX6 10, w ∈ tbG := by decide +kernel
theorem inX7 : ∀ w ∈ u_ws RX7 TX7 18, w ∈ tbG := by decide +kernel

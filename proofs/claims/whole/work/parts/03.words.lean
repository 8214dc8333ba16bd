theorem kw0 : (Cond.initialized RL) ∈ G := mG (sgT1 _ (List.mem_of_getElem? (i := 0) rfl)) rfl
theorem kw1 : (Cond.initialized RX9) ∈ G := mG (sgT1 _ (List.mem_of_getElem? (i := 1) rfl)) rfl
theorem kw2 : (Cond.initialized RX6) ∈ G := mG (sgT1 _ (List.mem_of_getElem? (i := 2) rfl)) rfl
theorem kw3 : (Cond.initialized RX2) ∈ G := mG (sgT1 _ (List.mem_of_getElem? (i := 3) rfl)) rfl
theorem kw4 : (Cond.initialized RJ9) ∈ G := mG (sgT1 _ (List.mem_of_getElem? (i := 4) rfl)) rfl
theorem kw5 : (Cond.initialized RX3) ∈ G := mG (sgT1 _ (List.mem_of_getElem? (i := 5) rfl)) rfl
theorem kw6 : (Cond.initialized RX7) ∈ G := mG (sgT1 _ (List.mem_of_getElem? (i := 6) rfl)) rfl
theorem kw7 : (Cond.initialized RX5) ∈ G := mG (sgT1 _ (List.mem_of_getElem? (i := 7) rfl)) rfl
theorem kw8 : (Cond.initialized RX4) ∈ G := mG (sgT1 _ (List.mem_of_getElem? (i := 8) rfl)) rfl
theorem kw9 : (Cond.initialized RX8) ∈ G := mG (sgT1 _ (List.mem_of_getElem? (i := 9) rfl)) rfl
theorem kw10 : (Cond.initialized RX1) ∈ G := mG (sgT1 _ (List.mem_of_getElem? (i := 10) rfl)) rfl
theorem kw11 : (Cond.initialized RX0) ∈ G := mG (sgT1 _ (List.mem_of_getElem? (i := 11) rfl)) rfl
theorem kw12 : (Cond.initialized RJ5) ∈ G := mG (sgT1 _ (List.mem_of_getElem? (i := 12) rfl)) rfl
theorem kw13 : (Cond.initialized RJ4) ∈ G := mG (sgT1 _ (List.mem_of_getElem? (i := 13) rfl)) rfl
theorem kw14 : (Cond.initialized RJ0) ∈ G := mG (sgT1 _ (List.mem_of_getElem? (i := 14) rfl)) rfl
theorem kw15 : (Cond.initialized RJ2) ∈ G := mG (sgT1 _ (List.mem_of_getElem? (i := 15) rfl)) rfl
theorem kw16 : (Cond.initialized RX10) ∈ G := mG (sgT1 _ (List.mem_of_getElem? (i := 16) rfl)) rfl
theorem kw17 : (Cond.initialized RJ1) ∈ G := mG (sgT1 _ (List.mem_of_getElem? (i := 17) rfl)) rfl
theorem kw18 : (Cond.initialized RJ3) ∈ G := mG (sgT1 _ (List.mem_of_getElem? (i := 18) rfl)) rfl
theorem kw19 : (Cond.initialized RJ6) ∈ G := mG (sgT1 _ (List.mem_of_getElem? (i := 19) rfl)) rfl
theorem kw20 : (Cond.initialized RJ8) ∈ G := mG (sgT1 _ (List.mem_of_getElem? (i := 20) rfl)) rfl
theorem kw21 : (Cond.initialized RJ7) ∈ G := mG (sgT1 _ (List.mem_of_getElem? (i := 21) rfl)) rfl
theorem kw22 : (Cond.initialized RJ10) ∈ G := mG (sgT1 _ (List.mem_of_getElem? (i := 22) rfl)) rfl
theorem kw23 : (Cond.classLink RL 7 RX9) ∈ G := mG (sgT1 _ (List.mem_of_getElem? (i := 23) rfl)) rfl
theorem kw24 : (Cond.instantiable RX9 14) ∈ G := mG (sgT1 _ (List.mem_of_getElem? (i := 24) rfl)) rfl
theorem kw25 : (Cond.methodLink RL 9 yX9_init) ∈ G := mG (sgT1 _ (List.mem_of_getElem? (i := 25) rfl)) rfl
theorem kw26 : (Cond.instanceMethod yX9_init) ∈ G := mG (sgT1 _ (List.mem_of_getElem? (i := 26) rfl)) rfl
theorem kw27 : (Cond.code yX9_init cX9_init 1 none) ∈ G := mG (sgT1 _ (List.mem_of_getElem? (i := 27) rfl)) rfl
theorem kw28 : (Cond.methodLink RX9 1 ({ cls := "java/lang/Object", name := "<init>", desc := "()V" } : Jvm.MethodName)) ∈ G := mG (sgT1 _ (List.mem_of_getElem? (i := 28) rfl)) rfl
theorem kw29 : (Cond.instanceMethod ({ cls := "java/lang/Object", name := "<init>", desc := "()V" } : Jvm.MethodName)) ∈ G := mG (sgT1 _ (List.mem_of_getElem? (i := 29) rfl)) rfl
theorem kw30 : (Cond.code ({ cls := "java/lang/Object", name := "<init>", desc := "()V" } : Jvm.MethodName) object_method_1_code 1 none) ∈ G := mG (sgT1 _ (List.mem_of_getElem? (i := 30) rfl)) rfl
theorem kw31 : (Cond.classLink RX9 7 RX6) ∈ G := mG (sgT1 _ (List.mem_of_getElem? (i := 31) rfl)) rfl
theorem kw32 : (Cond.instantiable RX6 13) ∈ G := mG (sgT1 _ (List.mem_of_getElem? (i := 32) rfl)) rfl
theorem kw33 : (Cond.instanceMethod yX6_init) ∈ G := mG (sgT1 _ (List.mem_of_getElem? (i := 34) rfl)) rfl
theorem kw34 : (Cond.code yX6_init cX6_init 1 none) ∈ G := mG (sgT1 _ (List.mem_of_getElem? (i := 35) rfl)) rfl
theorem kw35 : (Cond.methodLink RX6 3 ({ cls := "java/lang/Object", name := "<init>", desc := "()V" } : Jvm.MethodName)) ∈ G := mG (sgT1 _ (List.mem_of_getElem? (i := 36) rfl)) rfl
theorem kw36 : (Cond.classLink RX6 9 RX2) ∈ G := mG (sgT1 _ (List.mem_of_getElem? (i := 37) rfl)) rfl
theorem kw37 : (Cond.instantiable RX2 1) ∈ G := mG (sgT1 _ (List.mem_of_getElem? (i := 38) rfl)) rfl
theorem kw38 : (Cond.methodLink RX6 11 yX2_init) ∈ G := mG (sgT1 _ (List.mem_of_getElem? (i := 39) rfl)) rfl
theorem kw39 : (Cond.instanceMethod yX2_init) ∈ G := mG (sgT1 _ (List.mem_of_getElem? (i := 40) rfl)) rfl
theorem kw40 : (Cond.code yX2_init cX2_init 2 none) ∈ G := mG (sgT1 _ (List.mem_of_getElem? (i := 41) rfl)) rfl
theorem kw41 : (Cond.methodLink RX2 1 ({ cls := "java/lang/Object", name := "<init>", desc := "()V" } : Jvm.MethodName)) ∈ G := mG (sgT1 _ (List.mem_of_getElem? (i := 42) rfl)) rfl
theorem kw42 : (Cond.methodLink RX2 7 yJ9_max_7cf53) ∈ G := mG (sgT1 _ (List.mem_of_getElem? (i := 43) rfl)) rfl
theorem kw43 : (Cond.static yJ9_max_7cf53) ∈ G := mG (sgT1 _ (List.mem_of_getElem? (i := 44) rfl)) rfl
theorem kw44 : (Cond.code yJ9_max_7cf53 cJ9_max_7cf53 2 (some .int)) ∈ G := mG (sgT1 _ (List.mem_of_getElem? (i := 45) rfl)) rfl
theorem kw45 : (Cond.fieldLink RX2 13 RX2 "cells" "[I") ∈ G := mG (sgT1 _ (List.mem_of_getElem? (i := 46) rfl)) rfl
theorem kw46 : (Cond.laysFinal RX2 RX2 "cells" "[I") ∈ G := mG (sgT1 _ (List.mem_of_getElem? (i := 47) rfl)) rfl
theorem kw47 : (Cond.superclass RX2 "java/lang/Object") ∈ G := mG (sgT1 _ (List.mem_of_getElem? (i := 49) rfl)) rfl
theorem kw48 : (Cond.arrayClass Jvm.ClassFile.FieldType.int) ∈ G := mG (sgT1 _ (List.mem_of_getElem? (i := 50) rfl)) rfl
theorem kw49 : (Cond.fieldLink RX6 14 RX6 "raws" "LLatticeGrader$Ints;") ∈ G := mG (sgT1 _ (List.mem_of_getElem? (i := 51) rfl)) rfl
theorem kw50 : (Cond.fieldLink RX6 20 RX6 "kinds" "LLatticeGrader$Ints;") ∈ G := mG (sgT1 _ (List.mem_of_getElem? (i := 52) rfl)) rfl
theorem kw51 : (Cond.fieldLink RX6 23 RX6 "figures" "LLatticeGrader$Ints;") ∈ G := mG (sgT1 _ (List.mem_of_getElem? (i := 53) rfl)) rfl
theorem kw52 : (Cond.fieldLink RX6 26 RX6 "heavies" "LLatticeGrader$Ints;") ∈ G := mG (sgT1 _ (List.mem_of_getElem? (i := 54) rfl)) rfl
theorem kw53 : (Cond.fieldLink RX6 29 RX6 "places" "LLatticeGrader$Ints;") ∈ G := mG (sgT1 _ (List.mem_of_getElem? (i := 55) rfl)) rfl
theorem kw54 : (Cond.fieldLink RX6 48 RX6 "papers" "I") ∈ G := mG (sgT1 _ (List.mem_of_getElem? (i := 56) rfl)) rfl
theorem kw55 : (Cond.fieldLink RX6 32 RX6 "lowers" "LLatticeGrader$Ints;") ∈ G := mG (sgT1 _ (List.mem_of_getElem? (i := 57) rfl)) rfl
theorem kw56 : (Cond.fieldLink RX6 35 RX6 "uppers" "LLatticeGrader$Ints;") ∈ G := mG (sgT1 _ (List.mem_of_getElem? (i := 58) rfl)) rfl
theorem kw57 : (Cond.fieldLink RX6 52 RX6 "rules" "I") ∈ G := mG (sgT1 _ (List.mem_of_getElem? (i := 59) rfl)) rfl
theorem kw58 : (Cond.fieldLink RX6 38 RX6 "bounds" "LLatticeGrader$Ints;") ∈ G := mG (sgT1 _ (List.mem_of_getElem? (i := 60) rfl)) rfl
theorem kw59 : (Cond.fieldLink RX6 55 RX6 "boundCount" "I") ∈ G := mG (sgT1 _ (List.mem_of_getElem? (i := 61) rfl)) rfl
theorem kw60 : (Cond.fieldLink RX6 58 RX6 "tieWay" "I") ∈ G := mG (sgT1 _ (List.mem_of_getElem? (i := 62) rfl)) rfl
theorem kw61 : (Cond.fieldLink RX6 41 RX6 "reached" "LLatticeGrader$Ints;") ∈ G := mG (sgT1 _ (List.mem_of_getElem? (i := 63) rfl)) rfl
theorem kw62 : (Cond.laysFinal RX6 RX6 "raws" "LLatticeGrader$Ints;") ∈ G := mG (sgT1 _ (List.mem_of_getElem? (i := 64) rfl)) rfl
theorem kw63 : (Cond.laysFinal RX6 RX6 "kinds" "LLatticeGrader$Ints;") ∈ G := mG (sgT1 _ (List.mem_of_getElem? (i := 66) rfl)) rfl
theorem kw64 : (Cond.laysFinal RX6 RX6 "figures" "LLatticeGrader$Ints;") ∈ G := mG (sgT1 _ (List.mem_of_getElem? (i := 68) rfl)) rfl
theorem kw65 : (Cond.laysFinal RX6 RX6 "heavies" "LLatticeGrader$Ints;") ∈ G := mG (sgT1 _ (List.mem_of_getElem? (i := 70) rfl)) rfl
theorem kw66 : (Cond.laysFinal RX6 RX6 "places" "LLatticeGrader$Ints;") ∈ G := mG (sgT1 _ (List.mem_of_getElem? (i := 72) rfl)) rfl
theorem kw67 : (Cond.lays RX6 RX6 "papers" "I") ∈ G := mG (sgT1 _ (List.mem_of_getElem? (i := 74) rfl)) rfl
theorem kw68 : (Cond.laysFinal RX6 RX6 "lowers" "LLatticeGrader$Ints;") ∈ G := mG (sgT1 _ (List.mem_of_getElem? (i := 76) rfl)) rfl
theorem kw69 : (Cond.laysFinal RX6 RX6 "uppers" "LLatticeGrader$Ints;") ∈ G := mG (sgT1 _ (List.mem_of_getElem? (i := 78) rfl)) rfl
theorem kw70 : (Cond.lays RX6 RX6 "rules" "I") ∈ G := mG (sgT1 _ (List.mem_of_getElem? (i := 80) rfl)) rfl
theorem kw71 : (Cond.laysFinal RX6 RX6 "bounds" "LLatticeGrader$Ints;") ∈ G := mG (sgT1 _ (List.mem_of_getElem? (i := 82) rfl)) rfl
theorem kw72 : (Cond.lays RX6 RX6 "boundCount" "I") ∈ G := mG (sgT1 _ (List.mem_of_getElem? (i := 84) rfl)) rfl
theorem kw73 : (Cond.lays RX6 RX6 "tieWay" "I") ∈ G := mG (sgT1 _ (List.mem_of_getElem? (i := 86) rfl)) rfl
theorem kw74 : (Cond.laysFinal RX6 RX6 "reached" "LLatticeGrader$Ints;") ∈ G := mG (sgT1 _ (List.mem_of_getElem? (i := 88) rfl)) rfl
theorem kw75 : (Cond.superclass RX6 "java/lang/Object") ∈ G := mG (sgT1 _ (List.mem_of_getElem? (i := 90) rfl)) rfl
theorem kw76 : (Cond.classLink RX9 22 RX3) ∈ G := mG (sgT1 _ (List.mem_of_getElem? (i := 91) rfl)) rfl
theorem kw77 : (Cond.instantiable RX3 5) ∈ G := mG (sgT1 _ (List.mem_of_getElem? (i := 92) rfl)) rfl
theorem kw78 : (Cond.instanceMethod yX3_init) ∈ G := mG (sgT1 _ (List.mem_of_getElem? (i := 94) rfl)) rfl
theorem kw79 : (Cond.code yX3_init cX3_init 1 none) ∈ G := mG (sgT1 _ (List.mem_of_getElem? (i := 95) rfl)) rfl
theorem kw80 : (Cond.methodLink RX3 3 ({ cls := "java/lang/Object", name := "<init>", desc := "()V" } : Jvm.MethodName)) ∈ G := mG (sgT1 _ (List.mem_of_getElem? (i := 96) rfl)) rfl
theorem kw81 : (Cond.classLink RX3 9 RX2) ∈ G := mG (sgT1 _ (List.mem_of_getElem? (i := 97) rfl)) rfl
theorem kw82 : (Cond.methodLink RX3 11 yX2_init) ∈ G := mG (sgT1 _ (List.mem_of_getElem? (i := 98) rfl)) rfl
theorem kw83 : (Cond.fieldLink RX3 14 RX3 "signs" "LLatticeGrader$Ints;") ∈ G := mG (sgT1 _ (List.mem_of_getElem? (i := 99) rfl)) rfl
theorem kw84 : (Cond.fieldLink RX3 20 RX3 "numbers" "LLatticeGrader$Ints;") ∈ G := mG (sgT1 _ (List.mem_of_getElem? (i := 100) rfl)) rfl
theorem kw85 : (Cond.fieldLink RX3 23 RX3 "size" "I") ∈ G := mG (sgT1 _ (List.mem_of_getElem? (i := 101) rfl)) rfl
theorem kw86 : (Cond.fieldLink RX3 31 RX3 "at" "I") ∈ G := mG (sgT1 _ (List.mem_of_getElem? (i := 102) rfl)) rfl
theorem kw87 : (Cond.fieldLink RX3 34 RX3 "word" "I") ∈ G := mG (sgT1 _ (List.mem_of_getElem? (i := 103) rfl)) rfl
theorem kw88 : (Cond.laysFinal RX3 RX3 "signs" "LLatticeGrader$Ints;") ∈ G := mG (sgT1 _ (List.mem_of_getElem? (i := 104) rfl)) rfl
theorem kw89 : (Cond.laysFinal RX3 RX3 "numbers" "LLatticeGrader$Ints;") ∈ G := mG (sgT1 _ (List.mem_of_getElem? (i := 106) rfl)) rfl
theorem kw90 : (Cond.lays RX3 RX3 "size" "I") ∈ G := mG (sgT1 _ (List.mem_of_getElem? (i := 108) rfl)) rfl
theorem kw91 : (Cond.lays RX3 RX3 "at" "I") ∈ G := mG (sgT1 _ (List.mem_of_getElem? (i := 110) rfl)) rfl
theorem kw92 : (Cond.lays RX3 RX3 "word" "I") ∈ G := mG (sgT1 _ (List.mem_of_getElem? (i := 112) rfl)) rfl
theorem kw93 : (Cond.superclass RX3 "java/lang/Object") ∈ G := mG (sgT1 _ (List.mem_of_getElem? (i := 114) rfl)) rfl
theorem kw94 : (Cond.classLink RX9 29 RX2) ∈ G := mG (sgT1 _ (List.mem_of_getElem? (i := 115) rfl)) rfl
theorem kw95 : (Cond.methodLink RX9 31 yX2_init) ∈ G := mG (sgT1 _ (List.mem_of_getElem? (i := 116) rfl)) rfl
theorem kw96 : (Cond.classLink RX9 38 RX7) ∈ G := mG (sgT1 _ (List.mem_of_getElem? (i := 117) rfl)) rfl
theorem kw97 : (Cond.instantiable RX7 3) ∈ G := mG (sgT1 _ (List.mem_of_getElem? (i := 118) rfl)) rfl
theorem kw98 : (Cond.instanceMethod yX7_init) ∈ G := mG (sgT1 _ (List.mem_of_getElem? (i := 120) rfl)) rfl
theorem kw99 : (Cond.code yX7_init cX7_init 1 none) ∈ G := mG (sgT1 _ (List.mem_of_getElem? (i := 121) rfl)) rfl
theorem kw100 : (Cond.methodLink RX7 3 ({ cls := "java/lang/Object", name := "<init>", desc := "()V" } : Jvm.MethodName)) ∈ G := mG (sgT1 _ (List.mem_of_getElem? (i := 122) rfl)) rfl
theorem kw101 : (Cond.classLink RX7 15 RX2) ∈ G := mG (sgT1 _ (List.mem_of_getElem? (i := 123) rfl)) rfl
theorem kw102 : (Cond.methodLink RX7 17 yX2_init) ∈ G := mG (sgT1 _ (List.mem_of_getElem? (i := 124) rfl)) rfl
theorem kw103 : (Cond.fieldLink RX7 11 RX7 "cells" "[J") ∈ G := mG (sgT1 _ (List.mem_of_getElem? (i := 125) rfl)) rfl
theorem kw104 : (Cond.fieldLink RX7 20 RX7 "sizes" "LLatticeGrader$Ints;") ∈ G := mG (sgT1 _ (List.mem_of_getElem? (i := 126) rfl)) rfl
theorem kw105 : (Cond.fieldLink RX7 24 RX7 "made" "LLatticeGrader$Ints;") ∈ G := mG (sgT1 _ (List.mem_of_getElem? (i := 127) rfl)) rfl
theorem kw106 : (Cond.laysFinal RX7 RX7 "cells" "[J") ∈ G := mG (sgT1 _ (List.mem_of_getElem? (i := 128) rfl)) rfl
theorem kw107 : (Cond.laysFinal RX7 RX7 "sizes" "LLatticeGrader$Ints;") ∈ G := mG (sgT1 _ (List.mem_of_getElem? (i := 130) rfl)) rfl
theorem kw108 : (Cond.laysFinal RX7 RX7 "made" "LLatticeGrader$Ints;") ∈ G := mG (sgT1 _ (List.mem_of_getElem? (i := 132) rfl)) rfl
theorem kw109 : (Cond.superclass RX7 "java/lang/Object") ∈ G := mG (sgT1 _ (List.mem_of_getElem? (i := 134) rfl)) rfl
theorem kw110 : (Cond.arrayClass Jvm.ClassFile.FieldType.long) ∈ G := mG (sgT1 _ (List.mem_of_getElem? (i := 135) rfl)) rfl
theorem kw111 : (Cond.classLink RX9 48 RX5) ∈ G := mG (sgT1 _ (List.mem_of_getElem? (i := 136) rfl)) rfl
theorem kw112 : (Cond.instantiable RX5 5) ∈ G := mG (sgT1 _ (List.mem_of_getElem? (i := 137) rfl)) rfl
theorem kw113 : (Cond.instanceMethod yX5_init) ∈ G := mG (sgT1 _ (List.mem_of_getElem? (i := 139) rfl)) rfl
theorem kw114 : (Cond.code yX5_init cX5_init 1 none) ∈ G := mG (sgT1 _ (List.mem_of_getElem? (i := 140) rfl)) rfl
theorem kw115 : (Cond.methodLink RX5 3 ({ cls := "java/lang/Object", name := "<init>", desc := "()V" } : Jvm.MethodName)) ∈ G := mG (sgT1 _ (List.mem_of_getElem? (i := 141) rfl)) rfl
theorem kw116 : (Cond.classLink RX5 9 RX2) ∈ G := mG (sgT1 _ (List.mem_of_getElem? (i := 142) rfl)) rfl
theorem kw117 : (Cond.methodLink RX5 11 yX2_init) ∈ G := mG (sgT1 _ (List.mem_of_getElem? (i := 143) rfl)) rfl
theorem kw118 : (Cond.fieldLink RX5 14 RX5 "overs" "LLatticeGrader$Ints;") ∈ G := mG (sgT1 _ (List.mem_of_getElem? (i := 144) rfl)) rfl
theorem kw119 : (Cond.fieldLink RX5 20 RX5 "unders" "LLatticeGrader$Ints;") ∈ G := mG (sgT1 _ (List.mem_of_getElem? (i := 145) rfl)) rfl
theorem kw120 : (Cond.fieldLink RX5 23 RX5 "marks" "LLatticeGrader$Ints;") ∈ G := mG (sgT1 _ (List.mem_of_getElem? (i := 146) rfl)) rfl
theorem kw121 : (Cond.fieldLink RX5 26 RX5 "wrongs" "LLatticeGrader$Ints;") ∈ G := mG (sgT1 _ (List.mem_of_getElem? (i := 147) rfl)) rfl
theorem kw122 : (Cond.fieldLink RX5 35 RX5 "papers" "I") ∈ G := mG (sgT1 _ (List.mem_of_getElem? (i := 148) rfl)) rfl
theorem kw123 : (Cond.laysFinal RX5 RX5 "overs" "LLatticeGrader$Ints;") ∈ G := mG (sgT1 _ (List.mem_of_getElem? (i := 149) rfl)) rfl
theorem kw124 : (Cond.laysFinal RX5 RX5 "unders" "LLatticeGrader$Ints;") ∈ G := mG (sgT1 _ (List.mem_of_getElem? (i := 151) rfl)) rfl
theorem kw125 : (Cond.laysFinal RX5 RX5 "marks" "LLatticeGrader$Ints;") ∈ G := mG (sgT1 _ (List.mem_of_getElem? (i := 153) rfl)) rfl
theorem kw126 : (Cond.laysFinal RX5 RX5 "wrongs" "LLatticeGrader$Ints;") ∈ G := mG (sgT1 _ (List.mem_of_getElem? (i := 155) rfl)) rfl
theorem kw127 : (Cond.lays RX5 RX5 "papers" "I") ∈ G := mG (sgT1 _ (List.mem_of_getElem? (i := 157) rfl)) rfl
theorem kw128 : (Cond.superclass RX5 "java/lang/Object") ∈ G := mG (sgT1 _ (List.mem_of_getElem? (i := 159) rfl)) rfl
theorem kw129 : (Cond.classLink RX9 55 RX4) ∈ G := mG (sgT1 _ (List.mem_of_getElem? (i := 160) rfl)) rfl
theorem kw130 : (Cond.instantiable RX4 7) ∈ G := mG (sgT1 _ (List.mem_of_getElem? (i := 161) rfl)) rfl
theorem kw131 : (Cond.instanceMethod yX4_init) ∈ G := mG (sgT1 _ (List.mem_of_getElem? (i := 163) rfl)) rfl
theorem kw132 : (Cond.code yX4_init cX4_init 1 none) ∈ G := mG (sgT1 _ (List.mem_of_getElem? (i := 164) rfl)) rfl
theorem kw133 : (Cond.methodLink RX4 3 ({ cls := "java/lang/Object", name := "<init>", desc := "()V" } : Jvm.MethodName)) ∈ G := mG (sgT1 _ (List.mem_of_getElem? (i := 165) rfl)) rfl
theorem kw134 : (Cond.classLink RX4 9 RX8) ∈ G := mG (sgT1 _ (List.mem_of_getElem? (i := 166) rfl)) rfl
theorem kw135 : (Cond.instantiable RX8 7) ∈ G := mG (sgT1 _ (List.mem_of_getElem? (i := 167) rfl)) rfl
theorem kw136 : (Cond.instanceMethod yX8_init) ∈ G := mG (sgT1 _ (List.mem_of_getElem? (i := 169) rfl)) rfl
theorem kw137 : (Cond.code yX8_init cX8_init 1 none) ∈ G := mG (sgT1 _ (List.mem_of_getElem? (i := 170) rfl)) rfl
theorem kw138 : (Cond.methodLink RX8 3 ({ cls := "java/lang/Object", name := "<init>", desc := "()V" } : Jvm.MethodName)) ∈ G := mG (sgT1 _ (List.mem_of_getElem? (i := 171) rfl)) rfl
theorem kw139 : (Cond.classLink RX8 9 RX2) ∈ G := mG (sgT1 _ (List.mem_of_getElem? (i := 172) rfl)) rfl
theorem kw140 : (Cond.methodLink RX8 11 yX2_init) ∈ G := mG (sgT1 _ (List.mem_of_getElem? (i := 173) rfl)) rfl
theorem kw141 : (Cond.classLink RX8 32 RX1) ∈ G := mG (sgT1 _ (List.mem_of_getElem? (i := 174) rfl)) rfl
theorem kw142 : (Cond.instantiable RX1 2) ∈ G := mG (sgT1 _ (List.mem_of_getElem? (i := 175) rfl)) rfl
theorem kw143 : (Cond.instanceMethod yX1_init) ∈ G := mG (sgT1 _ (List.mem_of_getElem? (i := 177) rfl)) rfl
theorem kw144 : (Cond.code yX1_init cX1_init 1 none) ∈ G := mG (sgT1 _ (List.mem_of_getElem? (i := 178) rfl)) rfl
theorem kw145 : (Cond.methodLink RX1 1 ({ cls := "java/lang/Object", name := "<init>", desc := "()V" } : Jvm.MethodName)) ∈ G := mG (sgT1 _ (List.mem_of_getElem? (i := 179) rfl)) rfl
theorem kw146 : (Cond.fieldLink RX1 17 RX1 "above" "J") ∈ G := mG (sgT1 _ (List.mem_of_getElem? (i := 180) rfl)) rfl
theorem kw147 : (Cond.fieldLink RX1 7 RX1 "below" "J") ∈ G := mG (sgT1 _ (List.mem_of_getElem? (i := 181) rfl)) rfl
theorem kw148 : (Cond.lays RX1 RX1 "above" "J") ∈ G := mG (sgT1 _ (List.mem_of_getElem? (i := 182) rfl)) rfl
theorem kw149 : (Cond.lays RX1 RX1 "below" "J") ∈ G := mG (sgT1 _ (List.mem_of_getElem? (i := 184) rfl)) rfl
theorem kw150 : (Cond.superclass RX1 "java/lang/Object") ∈ G := mG (sgT1 _ (List.mem_of_getElem? (i := 186) rfl)) rfl
theorem kw151 : (Cond.fieldLink RX8 14 RX8 "marks" "LLatticeGrader$Ints;") ∈ G := mG (sgT1 _ (List.mem_of_getElem? (i := 187) rfl)) rfl
theorem kw152 : (Cond.fieldLink RX8 20 RX8 "weights" "LLatticeGrader$Ints;") ∈ G := mG (sgT1 _ (List.mem_of_getElem? (i := 188) rfl)) rfl
theorem kw153 : (Cond.fieldLink RX8 23 RX8 "places" "LLatticeGrader$Ints;") ∈ G := mG (sgT1 _ (List.mem_of_getElem? (i := 189) rfl)) rfl
theorem kw154 : (Cond.fieldLink RX8 26 RX8 "aboves" "LLatticeGrader$Ints;") ∈ G := mG (sgT1 _ (List.mem_of_getElem? (i := 190) rfl)) rfl
theorem kw155 : (Cond.fieldLink RX8 29 RX8 "belows" "LLatticeGrader$Ints;") ∈ G := mG (sgT1 _ (List.mem_of_getElem? (i := 191) rfl)) rfl
theorem kw156 : (Cond.fieldLink RX8 35 RX8 "reduced" "LLatticeGrader$Fraction;") ∈ G := mG (sgT1 _ (List.mem_of_getElem? (i := 192) rfl)) rfl
theorem kw157 : (Cond.fieldLink RX8 45 RX8 "papers" "I") ∈ G := mG (sgT1 _ (List.mem_of_getElem? (i := 193) rfl)) rfl
theorem kw158 : (Cond.laysFinal RX8 RX8 "marks" "LLatticeGrader$Ints;") ∈ G := mG (sgT1 _ (List.mem_of_getElem? (i := 194) rfl)) rfl
theorem kw159 : (Cond.laysFinal RX8 RX8 "weights" "LLatticeGrader$Ints;") ∈ G := mG (sgT1 _ (List.mem_of_getElem? (i := 196) rfl)) rfl
theorem kw160 : (Cond.laysFinal RX8 RX8 "places" "LLatticeGrader$Ints;") ∈ G := mG (sgT1 _ (List.mem_of_getElem? (i := 198) rfl)) rfl
theorem kw161 : (Cond.laysFinal RX8 RX8 "aboves" "LLatticeGrader$Ints;") ∈ G := mG (sgT1 _ (List.mem_of_getElem? (i := 200) rfl)) rfl
theorem kw162 : (Cond.laysFinal RX8 RX8 "belows" "LLatticeGrader$Ints;") ∈ G := mG (sgT1 _ (List.mem_of_getElem? (i := 202) rfl)) rfl
theorem kw163 : (Cond.laysFinal RX8 RX8 "reduced" "LLatticeGrader$Fraction;") ∈ G := mG (sgT1 _ (List.mem_of_getElem? (i := 204) rfl)) rfl
theorem kw164 : (Cond.lays RX8 RX8 "papers" "I") ∈ G := mG (sgT1 _ (List.mem_of_getElem? (i := 206) rfl)) rfl
theorem kw165 : (Cond.superclass RX8 "java/lang/Object") ∈ G := mG (sgT1 _ (List.mem_of_getElem? (i := 208) rfl)) rfl
theorem kw166 : (Cond.classLink RX4 18 RX2) ∈ G := mG (sgT1 _ (List.mem_of_getElem? (i := 209) rfl)) rfl
theorem kw167 : (Cond.methodLink RX4 20 yX2_init) ∈ G := mG (sgT1 _ (List.mem_of_getElem? (i := 210) rfl)) rfl
theorem kw168 : (Cond.fieldLink RX4 12 RX4 "values" "LLatticeGrader$Values;") ∈ G := mG (sgT1 _ (List.mem_of_getElem? (i := 211) rfl)) rfl
theorem kw169 : (Cond.fieldLink RX4 23 RX4 "blocks" "LLatticeGrader$Ints;") ∈ G := mG (sgT1 _ (List.mem_of_getElem? (i := 212) rfl)) rfl
theorem kw170 : (Cond.fieldLink RX4 27 RX4 "tops" "LLatticeGrader$Ints;") ∈ G := mG (sgT1 _ (List.mem_of_getElem? (i := 213) rfl)) rfl
theorem kw171 : (Cond.fieldLink RX4 30 RX4 "bottoms" "LLatticeGrader$Ints;") ∈ G := mG (sgT1 _ (List.mem_of_getElem? (i := 214) rfl)) rfl
theorem kw172 : (Cond.fieldLink RX4 37 RX4 "blocksNow" "I") ∈ G := mG (sgT1 _ (List.mem_of_getElem? (i := 215) rfl)) rfl
theorem kw173 : (Cond.fieldLink RX4 40 RX4 "mergesDone" "I") ∈ G := mG (sgT1 _ (List.mem_of_getElem? (i := 216) rfl)) rfl
theorem kw174 : (Cond.fieldLink RX4 33 RX4 "loss" "I") ∈ G := mG (sgT1 _ (List.mem_of_getElem? (i := 217) rfl)) rfl
theorem kw175 : (Cond.laysFinal RX4 RX4 "values" "LLatticeGrader$Values;") ∈ G := mG (sgT1 _ (List.mem_of_getElem? (i := 218) rfl)) rfl
theorem kw176 : (Cond.laysFinal RX4 RX4 "blocks" "LLatticeGrader$Ints;") ∈ G := mG (sgT1 _ (List.mem_of_getElem? (i := 220) rfl)) rfl
theorem kw177 : (Cond.laysFinal RX4 RX4 "tops" "LLatticeGrader$Ints;") ∈ G := mG (sgT1 _ (List.mem_of_getElem? (i := 222) rfl)) rfl
theorem kw178 : (Cond.laysFinal RX4 RX4 "bottoms" "LLatticeGrader$Ints;") ∈ G := mG (sgT1 _ (List.mem_of_getElem? (i := 224) rfl)) rfl
theorem kw179 : (Cond.lays RX4 RX4 "blocksNow" "I") ∈ G := mG (sgT1 _ (List.mem_of_getElem? (i := 226) rfl)) rfl
theorem kw180 : (Cond.lays RX4 RX4 "mergesDone" "I") ∈ G := mG (sgT1 _ (List.mem_of_getElem? (i := 228) rfl)) rfl
theorem kw181 : (Cond.lays RX4 RX4 "loss" "I") ∈ G := mG (sgT1 _ (List.mem_of_getElem? (i := 230) rfl)) rfl
theorem kw182 : (Cond.superclass RX4 "java/lang/Object") ∈ G := mG (sgT1 _ (List.mem_of_getElem? (i := 232) rfl)) rfl
theorem kw183 : (Cond.classLink RX9 62 RX0) ∈ G := mG (sgT1 _ (List.mem_of_getElem? (i := 233) rfl)) rfl
theorem kw184 : (Cond.instantiable RX0 5) ∈ G := mG (sgT1 _ (List.mem_of_getElem? (i := 234) rfl)) rfl
theorem kw185 : (Cond.instanceMethod yX0_init) ∈ G := mG (sgT1 _ (List.mem_of_getElem? (i := 236) rfl)) rfl
theorem kw186 : (Cond.code yX0_init cX0_init 1 none) ∈ G := mG (sgT1 _ (List.mem_of_getElem? (i := 237) rfl)) rfl
theorem kw187 : (Cond.methodLink RX0 3 ({ cls := "java/lang/Object", name := "<init>", desc := "()V" } : Jvm.MethodName)) ∈ G := mG (sgT1 _ (List.mem_of_getElem? (i := 238) rfl)) rfl
theorem kw188 : (Cond.classLink RX0 9 RX8) ∈ G := mG (sgT1 _ (List.mem_of_getElem? (i := 239) rfl)) rfl
theorem kw189 : (Cond.classLink RX0 18 RX5) ∈ G := mG (sgT2 _ (List.mem_of_getElem? (i := 1) rfl)) rfl
theorem kw190 : (Cond.classLink RX0 25 RX2) ∈ G := mG (sgT2 _ (List.mem_of_getElem? (i := 3) rfl)) rfl
theorem kw191 : (Cond.methodLink RX0 27 yX2_init) ∈ G := mG (sgT2 _ (List.mem_of_getElem? (i := 4) rfl)) rfl
theorem kw192 : (Cond.fieldLink RX0 12 RX0 "values" "LLatticeGrader$Values;") ∈ G := mG (sgT2 _ (List.mem_of_getElem? (i := 5) rfl)) rfl
theorem kw193 : (Cond.fieldLink RX0 21 RX0 "order" "LLatticeGrader$Order;") ∈ G := mG (sgT2 _ (List.mem_of_getElem? (i := 6) rfl)) rfl
theorem kw194 : (Cond.fieldLink RX0 30 RX0 "sums" "LLatticeGrader$Ints;") ∈ G := mG (sgT2 _ (List.mem_of_getElem? (i := 7) rfl)) rfl
theorem kw195 : (Cond.fieldLink RX0 34 RX0 "weighs" "LLatticeGrader$Ints;") ∈ G := mG (sgT2 _ (List.mem_of_getElem? (i := 8) rfl)) rfl
theorem kw196 : (Cond.fieldLink RX0 37 RX0 "downs" "LLatticeGrader$Ints;") ∈ G := mG (sgT2 _ (List.mem_of_getElem? (i := 9) rfl)) rfl
theorem kw197 : (Cond.laysFinal RX0 RX0 "values" "LLatticeGrader$Values;") ∈ G := mG (sgT2 _ (List.mem_of_getElem? (i := 10) rfl)) rfl
theorem kw198 : (Cond.laysFinal RX0 RX0 "order" "LLatticeGrader$Order;") ∈ G := mG (sgT2 _ (List.mem_of_getElem? (i := 12) rfl)) rfl
theorem kw199 : (Cond.laysFinal RX0 RX0 "sums" "LLatticeGrader$Ints;") ∈ G := mG (sgT2 _ (List.mem_of_getElem? (i := 14) rfl)) rfl
theorem kw200 : (Cond.laysFinal RX0 RX0 "weighs" "LLatticeGrader$Ints;") ∈ G := mG (sgT2 _ (List.mem_of_getElem? (i := 16) rfl)) rfl
theorem kw201 : (Cond.laysFinal RX0 RX0 "downs" "LLatticeGrader$Ints;") ∈ G := mG (sgT2 _ (List.mem_of_getElem? (i := 18) rfl)) rfl
theorem kw202 : (Cond.superclass RX0 "java/lang/Object") ∈ G := mG (sgT2 _ (List.mem_of_getElem? (i := 20) rfl)) rfl
theorem kw203 : (Cond.classLink RX9 69 RX1) ∈ G := mG (sgT2 _ (List.mem_of_getElem? (i := 21) rfl)) rfl
theorem kw204 : (Cond.classLink RX9 76 RJ4) ∈ G := mG (sgT2 _ (List.mem_of_getElem? (i := 23) rfl)) rfl
theorem kw205 : (Cond.instantiable RJ4 4) ∈ G := mG (sgT2 _ (List.mem_of_getElem? (i := 24) rfl)) rfl
theorem kw206 : (Cond.methodLink RX9 78 yJ4_init_da8c8) ∈ G := mG (sgT2 _ (List.mem_of_getElem? (i := 25) rfl)) rfl
theorem kw207 : (Cond.instanceMethod yJ4_init_da8c8) ∈ G := mG (sgT2 _ (List.mem_of_getElem? (i := 26) rfl)) rfl
theorem kw208 : (Cond.code yJ4_init_da8c8 cJ4_init_da8c8 1 none) ∈ G := mG (sgT2 _ (List.mem_of_getElem? (i := 27) rfl)) rfl
theorem kw209 : (Cond.methodLink RJ4 1 yJ5_init_d00df) ∈ G := mG (sgT2 _ (List.mem_of_getElem? (i := 28) rfl)) rfl
theorem kw210 : (Cond.instanceMethod yJ5_init_d00df) ∈ G := mG (sgT2 _ (List.mem_of_getElem? (i := 29) rfl)) rfl
theorem kw211 : (Cond.code yJ5_init_d00df cJ5_init_d00df 2 none) ∈ G := mG (sgT2 _ (List.mem_of_getElem? (i := 30) rfl)) rfl
theorem kw212 : (Cond.methodLink RJ5 3 ({ cls := "java/lang/Object", name := "<init>", desc := "()V" } : Jvm.MethodName)) ∈ G := mG (sgT2 _ (List.mem_of_getElem? (i := 31) rfl)) rfl
theorem kw213 : (Cond.fieldLink RJ5 18 RJ0 "COMPACT_STRINGS" "Z") ∈ G := mG (sgT2 _ (List.mem_of_getElem? (i := 32) rfl)) rfl
theorem kw214 : (Cond.methodLink RJ5 26 yJ2_newBytesFor_77867) ∈ G := mG (sgT2 _ (List.mem_of_getElem? (i := 34) rfl)) rfl
theorem kw215 : (Cond.static yJ2_newBytesFor_77867) ∈ G := mG (sgT2 _ (List.mem_of_getElem? (i := 35) rfl)) rfl
theorem kw216 : (Cond.code yJ2_newBytesFor_77867 cJ2_newBytesFor_77867 1 (Option.some (Jvm.ClassFile.FieldType.array Jvm.ClassFile.FieldType.byte))) ∈ G := mG (sgT2 _ (List.mem_of_getElem? (i := 36) rfl)) rfl
theorem kw217 : (Cond.methodLink RJ2 11 yJ2_newBytesLength_0f7a4) ∈ G := mG (sgT2 _ (List.mem_of_getElem? (i := 37) rfl)) rfl
theorem kw218 : (Cond.static yJ2_newBytesLength_0f7a4) ∈ G := mG (sgT2 _ (List.mem_of_getElem? (i := 38) rfl)) rfl
theorem kw219 : (Cond.code yJ2_newBytesLength_0f7a4 cJ2_newBytesLength_0f7a4 1 (some .int)) ∈ G := mG (sgT2 _ (List.mem_of_getElem? (i := 39) rfl)) rfl
theorem kw220 : (Cond.constant RJ2 20 (1073741823 : Int32)) ∈ G := mG (sgT2 _ (List.mem_of_getElem? (i := 40) rfl)) rfl
theorem kw221 : (Cond.fieldLink RJ5 15 RJ5 "value" "[B") ∈ G := mG (sgT2 _ (List.mem_of_getElem? (i := 41) rfl)) rfl
theorem kw222 : (Cond.fieldLink RJ5 22 RJ5 "coder" "B") ∈ G := mG (sgT2 _ (List.mem_of_getElem? (i := 42) rfl)) rfl
theorem kw223 : (Cond.fieldLink RJ5 73 RJ5 "maybeLatin1" "Z") ∈ G := mG (sgT2 _ (List.mem_of_getElem? (i := 43) rfl)) rfl
theorem kw224 : (Cond.fieldLink RJ5 79 RJ5 "count" "I") ∈ G := mG (sgT2 _ (List.mem_of_getElem? (i := 44) rfl)) rfl
theorem kw225 : (Cond.lays RJ4 RJ5 "value" "[B") ∈ G := mG (sgT2 _ (List.mem_of_getElem? (i := 45) rfl)) rfl
theorem kw226 : (Cond.lays RJ4 RJ5 "coder" "B") ∈ G := mG (sgT2 _ (List.mem_of_getElem? (i := 47) rfl)) rfl
theorem kw227 : (Cond.lays RJ4 RJ5 "maybeLatin1" "Z") ∈ G := mG (sgT2 _ (List.mem_of_getElem? (i := 49) rfl)) rfl
theorem kw228 : (Cond.lays RJ4 RJ5 "count" "I") ∈ G := mG (sgT2 _ (List.mem_of_getElem? (i := 51) rfl)) rfl
theorem kw229 : (Cond.superclass RJ4 RJ5) ∈ G := mG (sgT2 _ (List.mem_of_getElem? (i := 53) rfl)) rfl
theorem kw230 : (Cond.arrayClass Jvm.ClassFile.FieldType.byte) ∈ G := mG (sgT2 _ (List.mem_of_getElem? (i := 54) rfl)) rfl
theorem kw231 : (Cond.fieldLink RX9 10 RX9 "now" "LLatticeGrader$Sheet;") ∈ G := mG (sgT2 _ (List.mem_of_getElem? (i := 55) rfl)) rfl
theorem kw232 : (Cond.fieldLink RX9 16 RX9 "kept" "LLatticeGrader$Sheet;") ∈ G := mG (sgT2 _ (List.mem_of_getElem? (i := 56) rfl)) rfl
theorem kw233 : (Cond.fieldLink RX9 19 RX9 "spare" "LLatticeGrader$Sheet;") ∈ G := mG (sgT2 _ (List.mem_of_getElem? (i := 57) rfl)) rfl
theorem kw234 : (Cond.fieldLink RX9 335 RX9 "isKept" "Z") ∈ G := mG (sgT2 _ (List.mem_of_getElem? (i := 58) rfl)) rfl
theorem kw235 : (Cond.fieldLink RX9 25 RX9 "letters" "LLatticeGrader$Letters;") ∈ G := mG (sgT2 _ (List.mem_of_getElem? (i := 59) rfl)) rfl
theorem kw236 : (Cond.fieldLink RX9 34 RX9 "told" "LLatticeGrader$Ints;") ∈ G := mG (sgT2 _ (List.mem_of_getElem? (i := 60) rfl)) rfl
theorem kw237 : (Cond.fieldLink RX9 287 RX9 "toldCount" "I") ∈ G := mG (sgT2 _ (List.mem_of_getElem? (i := 61) rfl)) rfl
theorem kw238 : (Cond.fieldLink RX9 41 RX9 "shelves" "LLatticeGrader$Shelves;") ∈ G := mG (sgT2 _ (List.mem_of_getElem? (i := 62) rfl)) rfl
theorem kw239 : (Cond.fieldLink RX9 45 RX9 "refusals" "LLatticeGrader$Ints;") ∈ G := mG (sgT2 _ (List.mem_of_getElem? (i := 63) rfl)) rfl
theorem kw240 : (Cond.fieldLink RX9 51 RX9 "order" "LLatticeGrader$Order;") ∈ G := mG (sgT2 _ (List.mem_of_getElem? (i := 64) rfl)) rfl
theorem kw241 : (Cond.fieldLink RX9 58 RX9 "standing" "LLatticeGrader$Line;") ∈ G := mG (sgT2 _ (List.mem_of_getElem? (i := 65) rfl)) rfl
theorem kw242 : (Cond.fieldLink RX9 65 RX9 "byRules" "LLatticeGrader$ByRules;") ∈ G := mG (sgT2 _ (List.mem_of_getElem? (i := 66) rfl)) rfl
theorem kw243 : (Cond.fieldLink RX9 72 RX9 "fraction" "LLatticeGrader$Fraction;") ∈ G := mG (sgT2 _ (List.mem_of_getElem? (i := 67) rfl)) rfl
theorem kw244 : (Cond.fieldLink RX9 79 RX9 "said" "Ljava/lang/StringBuilder;") ∈ G := mG (sgT2 _ (List.mem_of_getElem? (i := 68) rfl)) rfl
theorem kw245 : (Cond.laysFinal RX9 RX9 "now" "LLatticeGrader$Sheet;") ∈ G := mG (sgT2 _ (List.mem_of_getElem? (i := 69) rfl)) rfl
theorem kw246 : (Cond.laysFinal RX9 RX9 "kept" "LLatticeGrader$Sheet;") ∈ G := mG (sgT2 _ (List.mem_of_getElem? (i := 71) rfl)) rfl
theorem kw247 : (Cond.laysFinal RX9 RX9 "spare" "LLatticeGrader$Sheet;") ∈ G := mG (sgT2 _ (List.mem_of_getElem? (i := 73) rfl)) rfl
theorem kw248 : (Cond.lays RX9 RX9 "isKept" "Z") ∈ G := mG (sgT2 _ (List.mem_of_getElem? (i := 75) rfl)) rfl
theorem kw249 : (Cond.laysFinal RX9 RX9 "letters" "LLatticeGrader$Letters;") ∈ G := mG (sgT2 _ (List.mem_of_getElem? (i := 77) rfl)) rfl
theorem kw250 : (Cond.laysFinal RX9 RX9 "told" "LLatticeGrader$Ints;") ∈ G := mG (sgT2 _ (List.mem_of_getElem? (i := 79) rfl)) rfl
theorem kw251 : (Cond.lays RX9 RX9 "toldCount" "I") ∈ G := mG (sgT2 _ (List.mem_of_getElem? (i := 81) rfl)) rfl
theorem kw252 : (Cond.laysFinal RX9 RX9 "shelves" "LLatticeGrader$Shelves;") ∈ G := mG (sgT2 _ (List.mem_of_getElem? (i := 83) rfl)) rfl
theorem kw253 : (Cond.laysFinal RX9 RX9 "refusals" "LLatticeGrader$Ints;") ∈ G := mG (sgT2 _ (List.mem_of_getElem? (i := 85) rfl)) rfl
theorem kw254 : (Cond.laysFinal RX9 RX9 "order" "LLatticeGrader$Order;") ∈ G := mG (sgT2 _ (List.mem_of_getElem? (i := 87) rfl)) rfl
theorem kw255 : (Cond.laysFinal RX9 RX9 "standing" "LLatticeGrader$Line;") ∈ G := mG (sgT2 _ (List.mem_of_getElem? (i := 89) rfl)) rfl
theorem kw256 : (Cond.laysFinal RX9 RX9 "byRules" "LLatticeGrader$ByRules;") ∈ G := mG (sgT2 _ (List.mem_of_getElem? (i := 91) rfl)) rfl
theorem kw257 : (Cond.laysFinal RX9 RX9 "fraction" "LLatticeGrader$Fraction;") ∈ G := mG (sgT2 _ (List.mem_of_getElem? (i := 93) rfl)) rfl
theorem kw258 : (Cond.laysFinal RX9 RX9 "said" "Ljava/lang/StringBuilder;") ∈ G := mG (sgT2 _ (List.mem_of_getElem? (i := 95) rfl)) rfl
theorem kw259 : (Cond.superclass RX9 "java/lang/Object") ∈ G := mG (sgT2 _ (List.mem_of_getElem? (i := 97) rfl)) rfl
theorem kw260 : (Cond.methodLink RL 13 yX9_letter) ∈ G := mG (sgT2 _ (List.mem_of_getElem? (i := 98) rfl)) rfl
theorem kw261 : (Cond.instanceMethod yX9_letter) ∈ G := mG (sgT2 _ (List.mem_of_getElem? (i := 99) rfl)) rfl
theorem kw262 : (Cond.selects RX9 yX9_letter yX9_letter) ∈ G := mG (sgT2 _ (List.mem_of_getElem? (i := 100) rfl)) rfl
theorem kw263 : (Cond.code yX9_letter cX9_letter 2 (some .int)) ∈ G := mG (sgT2 _ (List.mem_of_getElem? (i := 101) rfl)) rfl
theorem kw264 : (Cond.methodLink RX9 83 yX9_refuse) ∈ G := mG (sgT2 _ (List.mem_of_getElem? (i := 102) rfl)) rfl
theorem kw265 : (Cond.instanceMethod yX9_refuse) ∈ G := mG (sgT2 _ (List.mem_of_getElem? (i := 104) rfl)) rfl
theorem kw266 : (Cond.code yX9_refuse cX9_refuse 2 (some .int)) ∈ G := mG (sgT2 _ (List.mem_of_getElem? (i := 105) rfl)) rfl
theorem kw267 : (Cond.methodLink RX9 354 yX2_get) ∈ G := mG (sgT2 _ (List.mem_of_getElem? (i := 106) rfl)) rfl
theorem kw268 : (Cond.instanceMethod yX2_get) ∈ G := mG (sgT2 _ (List.mem_of_getElem? (i := 107) rfl)) rfl
theorem kw269 : (Cond.selects RX2 yX2_get yX2_get) ∈ G := mG (sgT2 _ (List.mem_of_getElem? (i := 108) rfl)) rfl
theorem kw270 : (Cond.code yX2_get cX2_get 2 (some .int)) ∈ G := mG (sgT2 _ (List.mem_of_getElem? (i := 109) rfl)) rfl
theorem kw271 : (Cond.methodLink RX9 291 yX2_set) ∈ G := mG (sgT2 _ (List.mem_of_getElem? (i := 110) rfl)) rfl
theorem kw272 : (Cond.instanceMethod yX2_set) ∈ G := mG (sgT2 _ (List.mem_of_getElem? (i := 111) rfl)) rfl
theorem kw273 : (Cond.selects RX2 yX2_set yX2_set) ∈ G := mG (sgT2 _ (List.mem_of_getElem? (i := 112) rfl)) rfl
theorem kw274 : (Cond.code yX2_set cX2_set 3 none) ∈ G := mG (sgT2 _ (List.mem_of_getElem? (i := 113) rfl)) rfl
theorem kw275 : (Cond.methodLink RX9 87 yX3_isFull) ∈ G := mG (sgT2 _ (List.mem_of_getElem? (i := 114) rfl)) rfl
theorem kw276 : (Cond.instanceMethod yX3_isFull) ∈ G := mG (sgT2 _ (List.mem_of_getElem? (i := 115) rfl)) rfl
theorem kw277 : (Cond.selects RX3 yX3_isFull yX3_isFull) ∈ G := mG (sgT2 _ (List.mem_of_getElem? (i := 116) rfl)) rfl
theorem kw278 : (Cond.code yX3_isFull cX3_isFull 1 (some .boolean)) ∈ G := mG (sgT2 _ (List.mem_of_getElem? (i := 117) rfl)) rfl
theorem kw279 : (Cond.methodLink RX9 91 yX3_add) ∈ G := mG (sgT2 _ (List.mem_of_getElem? (i := 118) rfl)) rfl
theorem kw280 : (Cond.instanceMethod yX3_add) ∈ G := mG (sgT2 _ (List.mem_of_getElem? (i := 119) rfl)) rfl
theorem kw281 : (Cond.selects RX3 yX3_add yX3_add) ∈ G := mG (sgT2 _ (List.mem_of_getElem? (i := 120) rfl)) rfl
theorem kw282 : (Cond.code yX3_add cX3_add 2 (some .int)) ∈ G := mG (sgT2 _ (List.mem_of_getElem? (i := 121) rfl)) rfl
theorem kw283 : (Cond.methodLink RX3 27 yX2_set) ∈ G := mG (sgT2 _ (List.mem_of_getElem? (i := 122) rfl)) rfl
theorem kw284 : (Cond.methodLink RL 18 yX9_tells) ∈ G := mG (sgT2 _ (List.mem_of_getElem? (i := 123) rfl)) rfl
theorem kw285 : (Cond.instanceMethod yX9_tells) ∈ G := mG (sgT2 _ (List.mem_of_getElem? (i := 124) rfl)) rfl
theorem kw286 : (Cond.selects RX9 yX9_tells yX9_tells) ∈ G := mG (sgT2 _ (List.mem_of_getElem? (i := 125) rfl)) rfl
theorem kw287 : (Cond.code yX9_tells cX9_tells 3 (some .int)) ∈ G := mG (sgT2 _ (List.mem_of_getElem? (i := 126) rfl)) rfl
theorem kw288 : (Cond.methodLink RX9 94 yX3_firstFault) ∈ G := mG (sgT2 _ (List.mem_of_getElem? (i := 127) rfl)) rfl
theorem kw289 : (Cond.instanceMethod yX3_firstFault) ∈ G := mG (sgT2 _ (List.mem_of_getElem? (i := 128) rfl)) rfl
theorem kw290 : (Cond.selects RX3 yX3_firstFault yX3_firstFault) ∈ G := mG (sgT2 _ (List.mem_of_getElem? (i := 129) rfl)) rfl
theorem kw291 : (Cond.code yX3_firstFault cX3_firstFault 3 (some .int)) ∈ G := mG (sgT2 _ (List.mem_of_getElem? (i := 130) rfl)) rfl
theorem kw292 : (Cond.methodLink RX3 41 yX3_readFromFront) ∈ G := mG (sgT2 _ (List.mem_of_getElem? (i := 131) rfl)) rfl
theorem kw293 : (Cond.instanceMethod yX3_readFromFront) ∈ G := mG (sgT2 _ (List.mem_of_getElem? (i := 132) rfl)) rfl
theorem kw294 : (Cond.selects RX3 yX3_readFromFront yX3_readFromFront) ∈ G := mG (sgT2 _ (List.mem_of_getElem? (i := 133) rfl)) rfl
theorem kw295 : (Cond.code yX3_readFromFront cX3_readFromFront 1 none) ∈ G := mG (sgT2 _ (List.mem_of_getElem? (i := 134) rfl)) rfl
theorem kw296 : (Cond.methodLink RX3 44 yX3_readStatement) ∈ G := mG (sgT2 _ (List.mem_of_getElem? (i := 135) rfl)) rfl
theorem kw297 : (Cond.instanceMethod yX3_readStatement) ∈ G := mG (sgT2 _ (List.mem_of_getElem? (i := 136) rfl)) rfl
theorem kw298 : (Cond.selects RX3 yX3_readStatement yX3_readStatement) ∈ G := mG (sgT2 _ (List.mem_of_getElem? (i := 137) rfl)) rfl
theorem kw299 : (Cond.code yX3_readStatement cX3_readStatement 1 (some .boolean)) ∈ G := mG (sgT2 _ (List.mem_of_getElem? (i := 138) rfl)) rfl
theorem kw300 : (Cond.methodLink RX3 51 yX3_readWord) ∈ G := mG (sgT2 _ (List.mem_of_getElem? (i := 139) rfl)) rfl
theorem kw301 : (Cond.instanceMethod yX3_readWord) ∈ G := mG (sgT2 _ (List.mem_of_getElem? (i := 141) rfl)) rfl
theorem kw302 : (Cond.code yX3_readWord cX3_readWord 4 (some .boolean)) ∈ G := mG (sgT2 _ (List.mem_of_getElem? (i := 142) rfl)) rfl
theorem kw303 : (Cond.methodLink RX3 60 yX3_textOf) ∈ G := mG (sgT2 _ (List.mem_of_getElem? (i := 143) rfl)) rfl
theorem kw304 : (Cond.static yX3_textOf) ∈ G := mG (sgT2 _ (List.mem_of_getElem? (i := 144) rfl)) rfl
theorem kw305 : (Cond.code yX3_textOf cX3_textOf 1 (Option.some (Jvm.ClassFile.FieldType.object RJ0))) ∈ G := mG (sgT2 _ (List.mem_of_getElem? (i := 145) rfl)) rfl
theorem kw306 : (Cond.methodLink RX3 64 yX3_alikeWith) ∈ G := mG (sgT2 _ (List.mem_of_getElem? (i := 154) rfl)) rfl
theorem kw307 : (Cond.instanceMethod yX3_alikeWith) ∈ G := mG (sgT2 _ (List.mem_of_getElem? (i := 156) rfl)) rfl
theorem kw308 : (Cond.code yX3_alikeWith cX3_alikeWith 3 (some .int)) ∈ G := mG (sgT2 _ (List.mem_of_getElem? (i := 157) rfl)) rfl
theorem kw309 : (Cond.methodLink RX3 68 yJ0_length_8abf5) ∈ G := mG (sgT2 _ (List.mem_of_getElem? (i := 158) rfl)) rfl
theorem kw310 : (Cond.instanceMethod yJ0_length_8abf5) ∈ G := mG (sgT2 _ (List.mem_of_getElem? (i := 159) rfl)) rfl
theorem kw311 : (Cond.selects RJ0 yJ0_length_8abf5 yJ0_length_8abf5) ∈ G := mG (sgT2 _ (List.mem_of_getElem? (i := 160) rfl)) rfl
theorem kw312 : (Cond.code yJ0_length_8abf5 cJ0_length_8abf5 1 (some .int)) ∈ G := mG (sgT2 _ (List.mem_of_getElem? (i := 161) rfl)) rfl
theorem kw313 : (Cond.methodLink RJ0 335 yJ0_coder_7d493) ∈ G := mG (sgT2 _ (List.mem_of_getElem? (i := 162) rfl)) rfl
theorem kw314 : (Cond.instanceMethod yJ0_coder_7d493) ∈ G := mG (sgT2 _ (List.mem_of_getElem? (i := 163) rfl)) rfl
theorem kw315 : (Cond.selects RJ0 yJ0_coder_7d493 yJ0_coder_7d493) ∈ G := mG (sgT2 _ (List.mem_of_getElem? (i := 164) rfl)) rfl
theorem kw316 : (Cond.code yJ0_coder_7d493 cJ0_coder_7d493 1 (some .byte)) ∈ G := mG (sgT2 _ (List.mem_of_getElem? (i := 165) rfl)) rfl
theorem kw317 : (Cond.fieldLink RJ0 38 RJ0 "COMPACT_STRINGS" "Z") ∈ G := mG (sgT2 _ (List.mem_of_getElem? (i := 166) rfl)) rfl
theorem kw318 : (Cond.methodLink RX3 80 yX3_signAt) ∈ G := mG (sgT2 _ (List.mem_of_getElem? (i := 167) rfl)) rfl
theorem kw319 : (Cond.instanceMethod yX3_signAt) ∈ G := mG (sgT2 _ (List.mem_of_getElem? (i := 169) rfl)) rfl
theorem kw320 : (Cond.code yX3_signAt cX3_signAt 2 (some .int)) ∈ G := mG (sgT2 _ (List.mem_of_getElem? (i := 170) rfl)) rfl
theorem kw321 : (Cond.methodLink RX3 37 yX2_get) ∈ G := mG (sgT2 _ (List.mem_of_getElem? (i := 171) rfl)) rfl
theorem kw322 : (Cond.methodLink RX3 83 yJ0_charAt_5068e) ∈ G := mG (sgT2 _ (List.mem_of_getElem? (i := 172) rfl)) rfl
theorem kw323 : (Cond.instanceMethod yJ0_charAt_5068e) ∈ G := mG (sgT2 _ (List.mem_of_getElem? (i := 173) rfl)) rfl
theorem kw324 : (Cond.selects RJ0 yJ0_charAt_5068e yJ0_charAt_5068e) ∈ G := mG (sgT2 _ (List.mem_of_getElem? (i := 174) rfl)) rfl
theorem kw325 : (Cond.code yJ0_charAt_5068e cJ0_charAt_5068e 2 (some .char)) ∈ G := mG (sgT2 _ (List.mem_of_getElem? (i := 175) rfl)) rfl
theorem kw326 : (Cond.methodLink RJ0 492 yJ0_isLatin1_aae02) ∈ G := mG (sgT2 _ (List.mem_of_getElem? (i := 176) rfl)) rfl
theorem kw327 : (Cond.instanceMethod yJ0_isLatin1_aae02) ∈ G := mG (sgT2 _ (List.mem_of_getElem? (i := 177) rfl)) rfl
theorem kw328 : (Cond.selects RJ0 yJ0_isLatin1_aae02 yJ0_isLatin1_aae02) ∈ G := mG (sgT2 _ (List.mem_of_getElem? (i := 178) rfl)) rfl
theorem kw329 : (Cond.code yJ0_isLatin1_aae02 cJ0_isLatin1_aae02 1 (some .boolean)) ∈ G := mG (sgT2 _ (List.mem_of_getElem? (i := 179) rfl)) rfl
theorem kw330 : (Cond.methodLink RJ0 495 yJ1_charAt_3b067) ∈ G := mG (sgT2 _ (List.mem_of_getElem? (i := 180) rfl)) rfl
theorem kw331 : (Cond.static yJ1_charAt_3b067) ∈ G := mG (sgT2 _ (List.mem_of_getElem? (i := 181) rfl)) rfl
theorem kw332 : (Cond.code yJ1_charAt_3b067 cJ1_charAt_3b067 2 (some .char)) ∈ G := mG (sgT2 _ (List.mem_of_getElem? (i := 182) rfl)) rfl
theorem kw333 : (Cond.methodLink RJ1 9 yJ0_checkIndex_df160) ∈ G := mG (sgT2 _ (List.mem_of_getElem? (i := 183) rfl)) rfl
theorem kw334 : (Cond.static yJ0_checkIndex_df160) ∈ G := mG (sgT2 _ (List.mem_of_getElem? (i := 184) rfl)) rfl
theorem kw335 : (Cond.code yJ0_checkIndex_df160 cJ0_checkIndex_df160 2 none) ∈ G := mG (sgT2 _ (List.mem_of_getElem? (i := 185) rfl)) rfl
theorem kw336 : (Cond.fieldLink RJ0 1053 RJ3 "SIOOBE_FORMATTER" "Ljava/util/function/BiFunction;") ∈ G := mG (sgT2 _ (List.mem_of_getElem? (i := 186) rfl)) rfl
theorem kw337 : (Cond.methodLink RJ0 1059 yJ3_checkIndex_8e157) ∈ G := mG (sgT2 _ (List.mem_of_getElem? (i := 188) rfl)) rfl
theorem kw338 : (Cond.static yJ3_checkIndex_8e157) ∈ G := mG (sgT2 _ (List.mem_of_getElem? (i := 189) rfl)) rfl
theorem kw339 : (Cond.code yJ3_checkIndex_8e157 cJ3_checkIndex_8e157 3 (some .int)) ∈ G := mG (sgT2 _ (List.mem_of_getElem? (i := 190) rfl)) rfl
theorem kw340 : (Cond.methodLink RJ0 498 yJ2_charAt_3b067) ∈ G := mG (sgT2 _ (List.mem_of_getElem? (i := 191) rfl)) rfl
theorem kw341 : (Cond.static yJ2_charAt_3b067) ∈ G := mG (sgT2 _ (List.mem_of_getElem? (i := 192) rfl)) rfl
theorem kw342 : (Cond.code yJ2_charAt_3b067 cJ2_charAt_3b067 2 (some .char)) ∈ G := mG (sgT2 _ (List.mem_of_getElem? (i := 193) rfl)) rfl
theorem kw343 : (Cond.methodLink RJ2 67 yJ2_checkIndex_2214a) ∈ G := mG (sgT2 _ (List.mem_of_getElem? (i := 194) rfl)) rfl
theorem kw344 : (Cond.static yJ2_checkIndex_2214a) ∈ G := mG (sgT2 _ (List.mem_of_getElem? (i := 195) rfl)) rfl
theorem kw345 : (Cond.code yJ2_checkIndex_2214a cJ2_checkIndex_2214a 2 none) ∈ G := mG (sgT2 _ (List.mem_of_getElem? (i := 196) rfl)) rfl
theorem kw346 : (Cond.methodLink RJ2 48 yJ2_length_9d52b) ∈ G := mG (sgT2 _ (List.mem_of_getElem? (i := 197) rfl)) rfl
theorem kw347 : (Cond.static yJ2_length_9d52b) ∈ G := mG (sgT2 _ (List.mem_of_getElem? (i := 198) rfl)) rfl
theorem kw348 : (Cond.code yJ2_length_9d52b cJ2_length_9d52b 1 (some .int)) ∈ G := mG (sgT2 _ (List.mem_of_getElem? (i := 199) rfl)) rfl
theorem kw349 : (Cond.methodLink RJ2 414 yJ0_checkIndex_df160) ∈ G := mG (sgT2 _ (List.mem_of_getElem? (i := 200) rfl)) rfl
theorem kw350 : (Cond.methodLink RJ2 71 yJ2_getChar_3b067) ∈ G := mG (sgT2 _ (List.mem_of_getElem? (i := 201) rfl)) rfl
theorem kw351 : (Cond.static yJ2_getChar_3b067) ∈ G := mG (sgT2 _ (List.mem_of_getElem? (i := 202) rfl)) rfl
theorem kw352 : (Cond.code yJ2_getChar_3b067 cJ2_getChar_3b067 2 (some .char)) ∈ G := mG (sgT2 _ (List.mem_of_getElem? (i := 203) rfl)) rfl
theorem kw353 : (Cond.fieldLink RJ2 44 RJ2 "$assertionsDisabled" "Z") ∈ G := mG (sgT2 _ (List.mem_of_getElem? (i := 204) rfl)) rfl
theorem kw354 : (Cond.fieldLink RJ2 59 RJ2 "HI_BYTE_SHIFT" "I") ∈ G := mG (sgT2 _ (List.mem_of_getElem? (i := 206) rfl)) rfl
theorem kw355 : (Cond.fieldLink RJ2 63 RJ2 "LO_BYTE_SHIFT" "I") ∈ G := mG (sgT2 _ (List.mem_of_getElem? (i := 208) rfl)) rfl
theorem kw356 : (Cond.methodLink RX3 74 yJ9_max_7cf53) ∈ G := mG (sgT2 _ (List.mem_of_getElem? (i := 210) rfl)) rfl
theorem kw357 : (Cond.methodLink RX3 54 yX3_readNumbers) ∈ G := mG (sgT2 _ (List.mem_of_getElem? (i := 211) rfl)) rfl
theorem kw358 : (Cond.instanceMethod yX3_readNumbers) ∈ G := mG (sgT2 _ (List.mem_of_getElem? (i := 213) rfl)) rfl
theorem kw359 : (Cond.code yX3_readNumbers cX3_readNumbers 3 (some .boolean)) ∈ G := mG (sgT2 _ (List.mem_of_getElem? (i := 214) rfl)) rfl
theorem kw360 : (Cond.methodLink RX3 87 yX3_numbersOf) ∈ G := mG (sgT2 _ (List.mem_of_getElem? (i := 215) rfl)) rfl
theorem kw361 : (Cond.static yX3_numbersOf) ∈ G := mG (sgT2 _ (List.mem_of_getElem? (i := 216) rfl)) rfl
theorem kw362 : (Cond.code yX3_numbersOf cX3_numbersOf 1 (some .int)) ∈ G := mG (sgT2 _ (List.mem_of_getElem? (i := 217) rfl)) rfl
theorem kw363 : (Cond.methodLink RX3 90 yX3_isDigit) ∈ G := mG (sgT2 _ (List.mem_of_getElem? (i := 218) rfl)) rfl
theorem kw364 : (Cond.static yX3_isDigit) ∈ G := mG (sgT2 _ (List.mem_of_getElem? (i := 219) rfl)) rfl
theorem kw365 : (Cond.code yX3_isDigit cX3_isDigit 1 (some .boolean)) ∈ G := mG (sgT2 _ (List.mem_of_getElem? (i := 220) rfl)) rfl
theorem kw366 : (Cond.methodLink RX3 57 yX3_readEnd) ∈ G := mG (sgT2 _ (List.mem_of_getElem? (i := 221) rfl)) rfl
theorem kw367 : (Cond.instanceMethod yX3_readEnd) ∈ G := mG (sgT2 _ (List.mem_of_getElem? (i := 223) rfl)) rfl
theorem kw368 : (Cond.code yX3_readEnd cX3_readEnd 1 (some .boolean)) ∈ G := mG (sgT2 _ (List.mem_of_getElem? (i := 224) rfl)) rfl
theorem kw369 : (Cond.methodLink RX3 48 yX3_isRead) ∈ G := mG (sgT2 _ (List.mem_of_getElem? (i := 225) rfl)) rfl
theorem kw370 : (Cond.instanceMethod yX3_isRead) ∈ G := mG (sgT2 _ (List.mem_of_getElem? (i := 226) rfl)) rfl
theorem kw371 : (Cond.selects RX3 yX3_isRead yX3_isRead) ∈ G := mG (sgT2 _ (List.mem_of_getElem? (i := 227) rfl)) rfl
theorem kw372 : (Cond.code yX3_isRead cX3_isRead 1 (some .boolean)) ∈ G := mG (sgT2 _ (List.mem_of_getElem? (i := 228) rfl)) rfl
theorem kw373 : (Cond.methodLink RX9 98 yX9_takeAll) ∈ G := mG (sgT2 _ (List.mem_of_getElem? (i := 229) rfl)) rfl
theorem kw374 : (Cond.instanceMethod yX9_takeAll) ∈ G := mG (sgT2 _ (List.mem_of_getElem? (i := 231) rfl)) rfl
theorem kw375 : (Cond.code yX9_takeAll cX9_takeAll 3 (some .int)) ∈ G := mG (sgT2 _ (List.mem_of_getElem? (i := 232) rfl)) rfl
theorem kw376 : (Cond.methodLink RX9 331 yX6_copyFrom) ∈ G := mG (sgT2 _ (List.mem_of_getElem? (i := 233) rfl)) rfl
theorem kw377 : (Cond.instanceMethod yX6_copyFrom) ∈ G := mG (sgT2 _ (List.mem_of_getElem? (i := 234) rfl)) rfl
theorem kw378 : (Cond.selects RX6 yX6_copyFrom yX6_copyFrom) ∈ G := mG (sgT2 _ (List.mem_of_getElem? (i := 235) rfl)) rfl
theorem kw379 : (Cond.code yX6_copyFrom cX6_copyFrom 2 none) ∈ G := mG (sgT2 _ (List.mem_of_getElem? (i := 236) rfl)) rfl
theorem kw380 : (Cond.methodLink RX6 44 yX2_copyFrom) ∈ G := mG (sgT2 _ (List.mem_of_getElem? (i := 237) rfl)) rfl
theorem kw381 : (Cond.instanceMethod yX2_copyFrom) ∈ G := mG (sgT2 _ (List.mem_of_getElem? (i := 238) rfl)) rfl
theorem kw382 : (Cond.selects RX2 yX2_copyFrom yX2_copyFrom) ∈ G := mG (sgT2 _ (List.mem_of_getElem? (i := 239) rfl)) rfl
theorem kw383 : (Cond.code yX2_copyFrom cX2_copyFrom 3 none) ∈ G := mG (sgT3 _ (List.mem_of_getElem? (i := 0) rfl)) rfl
theorem kw384 : (Cond.methodLink RX2 19 yX2_get) ∈ G := mG (sgT3 _ (List.mem_of_getElem? (i := 1) rfl)) rfl
theorem kw385 : (Cond.methodLink RX9 358 yX3_readFromFront) ∈ G := mG (sgT3 _ (List.mem_of_getElem? (i := 2) rfl)) rfl
theorem kw386 : (Cond.methodLink RX9 361 yX3_isRead) ∈ G := mG (sgT3 _ (List.mem_of_getElem? (i := 3) rfl)) rfl
theorem kw387 : (Cond.methodLink RX9 364 yX3_standsAt) ∈ G := mG (sgT3 _ (List.mem_of_getElem? (i := 4) rfl)) rfl
theorem kw388 : (Cond.instanceMethod yX3_standsAt) ∈ G := mG (sgT3 _ (List.mem_of_getElem? (i := 5) rfl)) rfl
theorem kw389 : (Cond.selects RX3 yX3_standsAt yX3_standsAt) ∈ G := mG (sgT3 _ (List.mem_of_getElem? (i := 6) rfl)) rfl
theorem kw390 : (Cond.code yX3_standsAt cX3_standsAt 1 (some .int)) ∈ G := mG (sgT3 _ (List.mem_of_getElem? (i := 7) rfl)) rfl
theorem kw391 : (Cond.methodLink RX9 367 yX3_readStatement) ∈ G := mG (sgT3 _ (List.mem_of_getElem? (i := 8) rfl)) rfl
theorem kw392 : (Cond.methodLink RX9 370 yX6_take) ∈ G := mG (sgT3 _ (List.mem_of_getElem? (i := 9) rfl)) rfl
theorem kw393 : (Cond.instanceMethod yX6_take) ∈ G := mG (sgT3 _ (List.mem_of_getElem? (i := 10) rfl)) rfl
theorem kw394 : (Cond.selects RX6 yX6_take yX6_take) ∈ G := mG (sgT3 _ (List.mem_of_getElem? (i := 11) rfl)) rfl
theorem kw395 : (Cond.code yX6_take cX6_take 4 (some .int)) ∈ G := mG (sgT3 _ (List.mem_of_getElem? (i := 12) rfl)) rfl
theorem kw396 : (Cond.methodLink RX6 114 yX3_numberAt) ∈ G := mG (sgT3 _ (List.mem_of_getElem? (i := 13) rfl)) rfl
theorem kw397 : (Cond.instanceMethod yX3_numberAt) ∈ G := mG (sgT3 _ (List.mem_of_getElem? (i := 14) rfl)) rfl
theorem kw398 : (Cond.selects RX3 yX3_numberAt yX3_numberAt) ∈ G := mG (sgT3 _ (List.mem_of_getElem? (i := 15) rfl)) rfl
theorem kw399 : (Cond.code yX3_numberAt cX3_numberAt 2 (some .int)) ∈ G := mG (sgT3 _ (List.mem_of_getElem? (i := 16) rfl)) rfl
theorem kw400 : (Cond.methodLink RX6 119 yX3_wordRead) ∈ G := mG (sgT3 _ (List.mem_of_getElem? (i := 17) rfl)) rfl
theorem kw401 : (Cond.instanceMethod yX3_wordRead) ∈ G := mG (sgT3 _ (List.mem_of_getElem? (i := 18) rfl)) rfl
theorem kw402 : (Cond.selects RX3 yX3_wordRead yX3_wordRead) ∈ G := mG (sgT3 _ (List.mem_of_getElem? (i := 19) rfl)) rfl
theorem kw403 : (Cond.code yX3_wordRead cX3_wordRead 1 (some .int)) ∈ G := mG (sgT3 _ (List.mem_of_getElem? (i := 20) rfl)) rfl
theorem kw404 : (Cond.methodLink RX6 123 yX6_addPaper) ∈ G := mG (sgT3 _ (List.mem_of_getElem? (i := 21) rfl)) rfl
theorem kw405 : (Cond.instanceMethod yX6_addPaper) ∈ G := mG (sgT3 _ (List.mem_of_getElem? (i := 22) rfl)) rfl
theorem kw406 : (Cond.selects RX6 yX6_addPaper yX6_addPaper) ∈ G := mG (sgT3 _ (List.mem_of_getElem? (i := 23) rfl)) rfl
theorem kw407 : (Cond.code yX6_addPaper cX6_addPaper 2 (some .int)) ∈ G := mG (sgT3 _ (List.mem_of_getElem? (i := 24) rfl)) rfl
theorem kw408 : (Cond.methodLink RX6 91 yX2_set) ∈ G := mG (sgT3 _ (List.mem_of_getElem? (i := 25) rfl)) rfl
theorem kw409 : (Cond.methodLink RX6 126 yX6_setKind) ∈ G := mG (sgT3 _ (List.mem_of_getElem? (i := 26) rfl)) rfl
theorem kw410 : (Cond.instanceMethod yX6_setKind) ∈ G := mG (sgT3 _ (List.mem_of_getElem? (i := 27) rfl)) rfl
theorem kw411 : (Cond.selects RX6 yX6_setKind yX6_setKind) ∈ G := mG (sgT3 _ (List.mem_of_getElem? (i := 28) rfl)) rfl
theorem kw412 : (Cond.code yX6_setKind cX6_setKind 5 (some .int)) ∈ G := mG (sgT3 _ (List.mem_of_getElem? (i := 29) rfl)) rfl
theorem kw413 : (Cond.methodLink RX6 61 yX6_hasPaper) ∈ G := mG (sgT3 _ (List.mem_of_getElem? (i := 30) rfl)) rfl
theorem kw414 : (Cond.instanceMethod yX6_hasPaper) ∈ G := mG (sgT3 _ (List.mem_of_getElem? (i := 31) rfl)) rfl
theorem kw415 : (Cond.selects RX6 yX6_hasPaper yX6_hasPaper) ∈ G := mG (sgT3 _ (List.mem_of_getElem? (i := 32) rfl)) rfl
theorem kw416 : (Cond.code yX6_hasPaper cX6_hasPaper 2 (some .boolean)) ∈ G := mG (sgT3 _ (List.mem_of_getElem? (i := 33) rfl)) rfl
theorem kw417 : (Cond.methodLink RX6 65 yX2_get) ∈ G := mG (sgT3 _ (List.mem_of_getElem? (i := 34) rfl)) rfl
theorem kw418 : (Cond.methodLink RX6 129 yX6_setHeavy) ∈ G := mG (sgT3 _ (List.mem_of_getElem? (i := 35) rfl)) rfl
theorem kw419 : (Cond.instanceMethod yX6_setHeavy) ∈ G := mG (sgT3 _ (List.mem_of_getElem? (i := 36) rfl)) rfl
theorem kw420 : (Cond.selects RX6 yX6_setHeavy yX6_setHeavy) ∈ G := mG (sgT3 _ (List.mem_of_getElem? (i := 37) rfl)) rfl
theorem kw421 : (Cond.code yX6_setHeavy cX6_setHeavy 3 (some .int)) ∈ G := mG (sgT3 _ (List.mem_of_getElem? (i := 38) rfl)) rfl
theorem kw422 : (Cond.methodLink RX6 95 yX6_swap) ∈ G := mG (sgT3 _ (List.mem_of_getElem? (i := 39) rfl)) rfl
theorem kw423 : (Cond.instanceMethod yX6_swap) ∈ G := mG (sgT3 _ (List.mem_of_getElem? (i := 41) rfl)) rfl
theorem kw424 : (Cond.code yX6_swap cX6_swap 7 (some .int)) ∈ G := mG (sgT3 _ (List.mem_of_getElem? (i := 42) rfl)) rfl
theorem kw425 : (Cond.methodLink RX6 132 yX6_setPlace) ∈ G := mG (sgT3 _ (List.mem_of_getElem? (i := 43) rfl)) rfl
theorem kw426 : (Cond.instanceMethod yX6_setPlace) ∈ G := mG (sgT3 _ (List.mem_of_getElem? (i := 44) rfl)) rfl
theorem kw427 : (Cond.selects RX6 yX6_setPlace yX6_setPlace) ∈ G := mG (sgT3 _ (List.mem_of_getElem? (i := 45) rfl)) rfl
theorem kw428 : (Cond.code yX6_setPlace cX6_setPlace 3 (some .int)) ∈ G := mG (sgT3 _ (List.mem_of_getElem? (i := 46) rfl)) rfl
theorem kw429 : (Cond.methodLink RX6 135 yX6_addRule) ∈ G := mG (sgT3 _ (List.mem_of_getElem? (i := 47) rfl)) rfl
theorem kw430 : (Cond.instanceMethod yX6_addRule) ∈ G := mG (sgT3 _ (List.mem_of_getElem? (i := 48) rfl)) rfl
theorem kw431 : (Cond.selects RX6 yX6_addRule yX6_addRule) ∈ G := mG (sgT3 _ (List.mem_of_getElem? (i := 49) rfl)) rfl
theorem kw432 : (Cond.code yX6_addRule cX6_addRule 3 (some .int)) ∈ G := mG (sgT3 _ (List.mem_of_getElem? (i := 50) rfl)) rfl
theorem kw433 : (Cond.methodLink RX6 99 yX6_areTwo) ∈ G := mG (sgT3 _ (List.mem_of_getElem? (i := 51) rfl)) rfl
theorem kw434 : (Cond.instanceMethod yX6_areTwo) ∈ G := mG (sgT3 _ (List.mem_of_getElem? (i := 52) rfl)) rfl
theorem kw435 : (Cond.selects RX6 yX6_areTwo yX6_areTwo) ∈ G := mG (sgT3 _ (List.mem_of_getElem? (i := 53) rfl)) rfl
theorem kw436 : (Cond.code yX6_areTwo cX6_areTwo 3 (some .boolean)) ∈ G := mG (sgT3 _ (List.mem_of_getElem? (i := 54) rfl)) rfl
theorem kw437 : (Cond.methodLink RX6 102 yX6_isThere) ∈ G := mG (sgT3 _ (List.mem_of_getElem? (i := 55) rfl)) rfl
theorem kw438 : (Cond.instanceMethod yX6_isThere) ∈ G := mG (sgT3 _ (List.mem_of_getElem? (i := 57) rfl)) rfl
theorem kw439 : (Cond.code yX6_isThere cX6_isThere 4 (some .boolean)) ∈ G := mG (sgT3 _ (List.mem_of_getElem? (i := 58) rfl)) rfl
theorem kw440 : (Cond.methodLink RX6 105 yX6_isUnder) ∈ G := mG (sgT3 _ (List.mem_of_getElem? (i := 59) rfl)) rfl
theorem kw441 : (Cond.instanceMethod yX6_isUnder) ∈ G := mG (sgT3 _ (List.mem_of_getElem? (i := 60) rfl)) rfl
theorem kw442 : (Cond.selects RX6 yX6_isUnder yX6_isUnder) ∈ G := mG (sgT3 _ (List.mem_of_getElem? (i := 61) rfl)) rfl
theorem kw443 : (Cond.code yX6_isUnder cX6_isUnder 3 (some .boolean)) ∈ G := mG (sgT3 _ (List.mem_of_getElem? (i := 62) rfl)) rfl
theorem kw444 : (Cond.methodLink RX6 83 yX6_trace) ∈ G := mG (sgT3 _ (List.mem_of_getElem? (i := 63) rfl)) rfl
theorem kw445 : (Cond.instanceMethod yX6_trace) ∈ G := mG (sgT3 _ (List.mem_of_getElem? (i := 64) rfl)) rfl
theorem kw446 : (Cond.selects RX6 yX6_trace yX6_trace) ∈ G := mG (sgT3 _ (List.mem_of_getElem? (i := 65) rfl)) rfl
theorem kw447 : (Cond.code yX6_trace cX6_trace 9 none) ∈ G := mG (sgT3 _ (List.mem_of_getElem? (i := 66) rfl)) rfl
theorem kw448 : (Cond.static yX9_hasBit) ∈ G := mG (sgT3 _ (List.mem_of_getElem? (i := 68) rfl)) rfl
theorem kw449 : (Cond.code yX9_hasBit cX9_hasBit 2 (some .boolean)) ∈ G := mG (sgT3 _ (List.mem_of_getElem? (i := 69) rfl)) rfl
theorem kw450 : (Cond.methodLink RX6 138 yX6_takeRule) ∈ G := mG (sgT3 _ (List.mem_of_getElem? (i := 70) rfl)) rfl
theorem kw451 : (Cond.instanceMethod yX6_takeRule) ∈ G := mG (sgT3 _ (List.mem_of_getElem? (i := 71) rfl)) rfl
theorem kw452 : (Cond.selects RX6 yX6_takeRule yX6_takeRule) ∈ G := mG (sgT3 _ (List.mem_of_getElem? (i := 72) rfl)) rfl
theorem kw453 : (Cond.code yX6_takeRule cX6_takeRule 2 (some .int)) ∈ G := mG (sgT3 _ (List.mem_of_getElem? (i := 73) rfl)) rfl
theorem kw454 : (Cond.methodLink RX6 108 yX6_hasRule) ∈ G := mG (sgT3 _ (List.mem_of_getElem? (i := 74) rfl)) rfl
theorem kw455 : (Cond.instanceMethod yX6_hasRule) ∈ G := mG (sgT3 _ (List.mem_of_getElem? (i := 75) rfl)) rfl
theorem kw456 : (Cond.selects RX6 yX6_hasRule yX6_hasRule) ∈ G := mG (sgT3 _ (List.mem_of_getElem? (i := 76) rfl)) rfl
theorem kw457 : (Cond.code yX6_hasRule cX6_hasRule 2 (some .boolean)) ∈ G := mG (sgT3 _ (List.mem_of_getElem? (i := 77) rfl)) rfl
theorem kw458 : (Cond.methodLink RX6 111 yX2_removeAt) ∈ G := mG (sgT3 _ (List.mem_of_getElem? (i := 78) rfl)) rfl
theorem kw459 : (Cond.instanceMethod yX2_removeAt) ∈ G := mG (sgT3 _ (List.mem_of_getElem? (i := 79) rfl)) rfl
theorem kw460 : (Cond.selects RX2 yX2_removeAt yX2_removeAt) ∈ G := mG (sgT3 _ (List.mem_of_getElem? (i := 80) rfl)) rfl
theorem kw461 : (Cond.code yX2_removeAt cX2_removeAt 3 none) ∈ G := mG (sgT3 _ (List.mem_of_getElem? (i := 81) rfl)) rfl
theorem kw462 : (Cond.methodLink RX2 23 yX2_set) ∈ G := mG (sgT3 _ (List.mem_of_getElem? (i := 82) rfl)) rfl
theorem kw463 : (Cond.methodLink RX6 141 yX6_addLimit) ∈ G := mG (sgT3 _ (List.mem_of_getElem? (i := 83) rfl)) rfl
theorem kw464 : (Cond.instanceMethod yX6_addLimit) ∈ G := mG (sgT3 _ (List.mem_of_getElem? (i := 84) rfl)) rfl
theorem kw465 : (Cond.selects RX6 yX6_addLimit yX6_addLimit) ∈ G := mG (sgT3 _ (List.mem_of_getElem? (i := 85) rfl)) rfl
theorem kw466 : (Cond.code yX6_addLimit cX6_addLimit 2 (some .int)) ∈ G := mG (sgT3 _ (List.mem_of_getElem? (i := 86) rfl)) rfl
theorem kw467 : (Cond.methodLink RX6 144 yX6_setTies) ∈ G := mG (sgT3 _ (List.mem_of_getElem? (i := 87) rfl)) rfl
theorem kw468 : (Cond.instanceMethod yX6_setTies) ∈ G := mG (sgT3 _ (List.mem_of_getElem? (i := 88) rfl)) rfl
theorem kw469 : (Cond.selects RX6 yX6_setTies yX6_setTies) ∈ G := mG (sgT3 _ (List.mem_of_getElem? (i := 89) rfl)) rfl
theorem kw470 : (Cond.code yX6_setTies cX6_setTies 3 (some .int)) ∈ G := mG (sgT3 _ (List.mem_of_getElem? (i := 90) rfl)) rfl
theorem kw471 : (Cond.methodLink RX9 101 yX3_forget) ∈ G := mG (sgT3 _ (List.mem_of_getElem? (i := 91) rfl)) rfl
theorem kw472 : (Cond.instanceMethod yX3_forget) ∈ G := mG (sgT3 _ (List.mem_of_getElem? (i := 92) rfl)) rfl
theorem kw473 : (Cond.selects RX3 yX3_forget yX3_forget) ∈ G := mG (sgT3 _ (List.mem_of_getElem? (i := 93) rfl)) rfl
theorem kw474 : (Cond.code yX3_forget cX3_forget 1 none) ∈ G := mG (sgT3 _ (List.mem_of_getElem? (i := 94) rfl)) rfl
theorem kw475 : (Cond.methodLink RL 23 yX9_paper) ∈ G := mG (sgT3 _ (List.mem_of_getElem? (i := 95) rfl)) rfl
theorem kw476 : (Cond.instanceMethod yX9_paper) ∈ G := mG (sgT3 _ (List.mem_of_getElem? (i := 96) rfl)) rfl
theorem kw477 : (Cond.selects RX9 yX9_paper yX9_paper) ∈ G := mG (sgT3 _ (List.mem_of_getElem? (i := 97) rfl)) rfl
theorem kw478 : (Cond.code yX9_paper cX9_paper 2 (some .int)) ∈ G := mG (sgT3 _ (List.mem_of_getElem? (i := 98) rfl)) rfl
theorem kw479 : (Cond.methodLink RX9 104 yX6_addPaper) ∈ G := mG (sgT3 _ (List.mem_of_getElem? (i := 99) rfl)) rfl
theorem kw480 : (Cond.methodLink RX9 107 yX9_counted) ∈ G := mG (sgT3 _ (List.mem_of_getElem? (i := 100) rfl)) rfl
theorem kw481 : (Cond.instanceMethod yX9_counted) ∈ G := mG (sgT3 _ (List.mem_of_getElem? (i := 102) rfl)) rfl
theorem kw482 : (Cond.code yX9_counted cX9_counted 2 (some .int)) ∈ G := mG (sgT3 _ (List.mem_of_getElem? (i := 103) rfl)) rfl
theorem kw483 : (Cond.methodLink RL 27 yX9_kind) ∈ G := mG (sgT3 _ (List.mem_of_getElem? (i := 104) rfl)) rfl
theorem kw484 : (Cond.instanceMethod yX9_kind) ∈ G := mG (sgT3 _ (List.mem_of_getElem? (i := 105) rfl)) rfl
theorem kw485 : (Cond.selects RX9 yX9_kind yX9_kind) ∈ G := mG (sgT3 _ (List.mem_of_getElem? (i := 106) rfl)) rfl
theorem kw486 : (Cond.code yX9_kind cX9_kind 4 (some .int)) ∈ G := mG (sgT3 _ (List.mem_of_getElem? (i := 107) rfl)) rfl
theorem kw487 : (Cond.methodLink RX9 110 yX6_setKind) ∈ G := mG (sgT3 _ (List.mem_of_getElem? (i := 108) rfl)) rfl
theorem kw488 : (Cond.methodLink RL 32 yX9_raw) ∈ G := mG (sgT3 _ (List.mem_of_getElem? (i := 109) rfl)) rfl
theorem kw489 : (Cond.instanceMethod yX9_raw) ∈ G := mG (sgT3 _ (List.mem_of_getElem? (i := 110) rfl)) rfl
theorem kw490 : (Cond.selects RX9 yX9_raw yX9_raw) ∈ G := mG (sgT3 _ (List.mem_of_getElem? (i := 111) rfl)) rfl
theorem kw491 : (Cond.code yX9_raw cX9_raw 3 (some .int)) ∈ G := mG (sgT3 _ (List.mem_of_getElem? (i := 112) rfl)) rfl
theorem kw492 : (Cond.methodLink RX9 114 yX6_setRaw) ∈ G := mG (sgT3 _ (List.mem_of_getElem? (i := 113) rfl)) rfl
theorem kw493 : (Cond.instanceMethod yX6_setRaw) ∈ G := mG (sgT3 _ (List.mem_of_getElem? (i := 114) rfl)) rfl
theorem kw494 : (Cond.selects RX6 yX6_setRaw yX6_setRaw) ∈ G := mG (sgT3 _ (List.mem_of_getElem? (i := 115) rfl)) rfl
theorem kw495 : (Cond.code yX6_setRaw cX6_setRaw 3 (some .int)) ∈ G := mG (sgT3 _ (List.mem_of_getElem? (i := 116) rfl)) rfl
theorem kw496 : (Cond.methodLink RL 37 yX9_heavy) ∈ G := mG (sgT3 _ (List.mem_of_getElem? (i := 117) rfl)) rfl
theorem kw497 : (Cond.instanceMethod yX9_heavy) ∈ G := mG (sgT3 _ (List.mem_of_getElem? (i := 118) rfl)) rfl
theorem kw498 : (Cond.selects RX9 yX9_heavy yX9_heavy) ∈ G := mG (sgT3 _ (List.mem_of_getElem? (i := 119) rfl)) rfl
theorem kw499 : (Cond.code yX9_heavy cX9_heavy 3 (some .int)) ∈ G := mG (sgT3 _ (List.mem_of_getElem? (i := 120) rfl)) rfl
theorem kw500 : (Cond.methodLink RX9 118 yX6_setHeavy) ∈ G := mG (sgT3 _ (List.mem_of_getElem? (i := 121) rfl)) rfl
theorem kw501 : (Cond.methodLink RL 41 yX9_place) ∈ G := mG (sgT3 _ (List.mem_of_getElem? (i := 122) rfl)) rfl
theorem kw502 : (Cond.instanceMethod yX9_place) ∈ G := mG (sgT3 _ (List.mem_of_getElem? (i := 123) rfl)) rfl
theorem kw503 : (Cond.selects RX9 yX9_place yX9_place) ∈ G := mG (sgT3 _ (List.mem_of_getElem? (i := 124) rfl)) rfl
theorem kw504 : (Cond.code yX9_place cX9_place 3 (some .int)) ∈ G := mG (sgT3 _ (List.mem_of_getElem? (i := 125) rfl)) rfl
theorem kw505 : (Cond.methodLink RX9 121 yX6_setPlace) ∈ G := mG (sgT3 _ (List.mem_of_getElem? (i := 126) rfl)) rfl
theorem kw506 : (Cond.methodLink RL 45 yX9_rule) ∈ G := mG (sgT3 _ (List.mem_of_getElem? (i := 127) rfl)) rfl
theorem kw507 : (Cond.instanceMethod yX9_rule) ∈ G := mG (sgT3 _ (List.mem_of_getElem? (i := 128) rfl)) rfl
theorem kw508 : (Cond.selects RX9 yX9_rule yX9_rule) ∈ G := mG (sgT3 _ (List.mem_of_getElem? (i := 129) rfl)) rfl
theorem kw509 : (Cond.code yX9_rule cX9_rule 3 (some .int)) ∈ G := mG (sgT3 _ (List.mem_of_getElem? (i := 130) rfl)) rfl
theorem kw510 : (Cond.methodLink RX9 124 yX6_addRule) ∈ G := mG (sgT3 _ (List.mem_of_getElem? (i := 131) rfl)) rfl
theorem kw511 : (Cond.methodLink RL 49 yX9_free) ∈ G := mG (sgT3 _ (List.mem_of_getElem? (i := 132) rfl)) rfl
theorem kw512 : (Cond.instanceMethod yX9_free) ∈ G := mG (sgT3 _ (List.mem_of_getElem? (i := 133) rfl)) rfl
theorem kw513 : (Cond.selects RX9 yX9_free yX9_free) ∈ G := mG (sgT3 _ (List.mem_of_getElem? (i := 134) rfl)) rfl
theorem kw514 : (Cond.code yX9_free cX9_free 2 (some .int)) ∈ G := mG (sgT3 _ (List.mem_of_getElem? (i := 135) rfl)) rfl
theorem kw515 : (Cond.methodLink RX9 127 yX6_takeRule) ∈ G := mG (sgT3 _ (List.mem_of_getElem? (i := 136) rfl)) rfl
theorem kw516 : (Cond.methodLink RL 53 yX9_limit) ∈ G := mG (sgT3 _ (List.mem_of_getElem? (i := 137) rfl)) rfl
theorem kw517 : (Cond.instanceMethod yX9_limit) ∈ G := mG (sgT3 _ (List.mem_of_getElem? (i := 138) rfl)) rfl
theorem kw518 : (Cond.selects RX9 yX9_limit yX9_limit) ∈ G := mG (sgT3 _ (List.mem_of_getElem? (i := 139) rfl)) rfl
theorem kw519 : (Cond.code yX9_limit cX9_limit 2 (some .int)) ∈ G := mG (sgT3 _ (List.mem_of_getElem? (i := 140) rfl)) rfl
theorem kw520 : (Cond.methodLink RX9 130 yX6_addLimit) ∈ G := mG (sgT3 _ (List.mem_of_getElem? (i := 141) rfl)) rfl
theorem kw521 : (Cond.methodLink RL 57 yX9_limits) ∈ G := mG (sgT3 _ (List.mem_of_getElem? (i := 142) rfl)) rfl
theorem kw522 : (Cond.instanceMethod yX9_limits) ∈ G := mG (sgT3 _ (List.mem_of_getElem? (i := 143) rfl)) rfl
theorem kw523 : (Cond.selects RX9 yX9_limits yX9_limits) ∈ G := mG (sgT3 _ (List.mem_of_getElem? (i := 144) rfl)) rfl
theorem kw524 : (Cond.code yX9_limits cX9_limits 1 (some .int)) ∈ G := mG (sgT3 _ (List.mem_of_getElem? (i := 145) rfl)) rfl
theorem kw525 : (Cond.methodLink RX9 133 yX6_takeLimits) ∈ G := mG (sgT3 _ (List.mem_of_getElem? (i := 146) rfl)) rfl
theorem kw526 : (Cond.instanceMethod yX6_takeLimits) ∈ G := mG (sgT3 _ (List.mem_of_getElem? (i := 147) rfl)) rfl
theorem kw527 : (Cond.selects RX6 yX6_takeLimits yX6_takeLimits) ∈ G := mG (sgT3 _ (List.mem_of_getElem? (i := 148) rfl)) rfl
theorem kw528 : (Cond.code yX6_takeLimits cX6_takeLimits 2 (some .int)) ∈ G := mG (sgT3 _ (List.mem_of_getElem? (i := 149) rfl)) rfl
theorem kw529 : (Cond.methodLink RL 61 yX9_ties) ∈ G := mG (sgT3 _ (List.mem_of_getElem? (i := 150) rfl)) rfl
theorem kw530 : (Cond.instanceMethod yX9_ties) ∈ G := mG (sgT3 _ (List.mem_of_getElem? (i := 151) rfl)) rfl
theorem kw531 : (Cond.selects RX9 yX9_ties yX9_ties) ∈ G := mG (sgT3 _ (List.mem_of_getElem? (i := 152) rfl)) rfl
theorem kw532 : (Cond.code yX9_ties cX9_ties 2 (some .int)) ∈ G := mG (sgT3 _ (List.mem_of_getElem? (i := 153) rfl)) rfl
theorem kw533 : (Cond.methodLink RX9 136 yX6_setTies) ∈ G := mG (sgT3 _ (List.mem_of_getElem? (i := 154) rfl)) rfl
theorem kw534 : (Cond.methodLink RL 65 yX9_of) ∈ G := mG (sgT3 _ (List.mem_of_getElem? (i := 155) rfl)) rfl
theorem kw535 : (Cond.instanceMethod yX9_of) ∈ G := mG (sgT3 _ (List.mem_of_getElem? (i := 156) rfl)) rfl
theorem kw536 : (Cond.selects RX9 yX9_of yX9_of) ∈ G := mG (sgT3 _ (List.mem_of_getElem? (i := 157) rfl)) rfl
theorem kw537 : (Cond.code yX9_of cX9_of 3 (some .int)) ∈ G := mG (sgT3 _ (List.mem_of_getElem? (i := 158) rfl)) rfl
theorem kw538 : (Cond.methodLink RX9 139 yX6_hasPaper) ∈ G := mG (sgT3 _ (List.mem_of_getElem? (i := 159) rfl)) rfl
theorem kw539 : (Cond.methodLink RX9 143 yX6_rawOf) ∈ G := mG (sgT3 _ (List.mem_of_getElem? (i := 160) rfl)) rfl
theorem kw540 : (Cond.instanceMethod yX6_rawOf) ∈ G := mG (sgT3 _ (List.mem_of_getElem? (i := 161) rfl)) rfl
theorem kw541 : (Cond.selects RX6 yX6_rawOf yX6_rawOf) ∈ G := mG (sgT3 _ (List.mem_of_getElem? (i := 162) rfl)) rfl
theorem kw542 : (Cond.code yX6_rawOf cX6_rawOf 2 (some .int)) ∈ G := mG (sgT3 _ (List.mem_of_getElem? (i := 163) rfl)) rfl
theorem kw543 : (Cond.methodLink RX9 146 yX6_kindOf) ∈ G := mG (sgT3 _ (List.mem_of_getElem? (i := 164) rfl)) rfl
theorem kw544 : (Cond.instanceMethod yX6_kindOf) ∈ G := mG (sgT3 _ (List.mem_of_getElem? (i := 165) rfl)) rfl
theorem kw545 : (Cond.selects RX6 yX6_kindOf yX6_kindOf) ∈ G := mG (sgT3 _ (List.mem_of_getElem? (i := 166) rfl)) rfl
theorem kw546 : (Cond.code yX6_kindOf cX6_kindOf 2 (some .int)) ∈ G := mG (sgT3 _ (List.mem_of_getElem? (i := 167) rfl)) rfl
theorem kw547 : (Cond.methodLink RX9 149 yX6_figureOf) ∈ G := mG (sgT3 _ (List.mem_of_getElem? (i := 168) rfl)) rfl
theorem kw548 : (Cond.instanceMethod yX6_figureOf) ∈ G := mG (sgT3 _ (List.mem_of_getElem? (i := 169) rfl)) rfl
theorem kw549 : (Cond.selects RX6 yX6_figureOf yX6_figureOf) ∈ G := mG (sgT3 _ (List.mem_of_getElem? (i := 170) rfl)) rfl
theorem kw550 : (Cond.code yX6_figureOf cX6_figureOf 2 (some .int)) ∈ G := mG (sgT3 _ (List.mem_of_getElem? (i := 171) rfl)) rfl
theorem kw551 : (Cond.methodLink RX9 152 yX6_heavyOf) ∈ G := mG (sgT3 _ (List.mem_of_getElem? (i := 172) rfl)) rfl
theorem kw552 : (Cond.instanceMethod yX6_heavyOf) ∈ G := mG (sgT3 _ (List.mem_of_getElem? (i := 173) rfl)) rfl
theorem kw553 : (Cond.selects RX6 yX6_heavyOf yX6_heavyOf) ∈ G := mG (sgT3 _ (List.mem_of_getElem? (i := 174) rfl)) rfl
theorem kw554 : (Cond.code yX6_heavyOf cX6_heavyOf 2 (some .int)) ∈ G := mG (sgT3 _ (List.mem_of_getElem? (i := 175) rfl)) rfl
theorem kw555 : (Cond.methodLink RX9 155 yX6_placeOf) ∈ G := mG (sgT3 _ (List.mem_of_getElem? (i := 176) rfl)) rfl
theorem kw556 : (Cond.instanceMethod yX6_placeOf) ∈ G := mG (sgT3 _ (List.mem_of_getElem? (i := 177) rfl)) rfl
theorem kw557 : (Cond.selects RX6 yX6_placeOf yX6_placeOf) ∈ G := mG (sgT3 _ (List.mem_of_getElem? (i := 178) rfl)) rfl
theorem kw558 : (Cond.code yX6_placeOf cX6_placeOf 2 (some .int)) ∈ G := mG (sgT3 _ (List.mem_of_getElem? (i := 179) rfl)) rfl
theorem kw559 : (Cond.methodLink RX9 158 yX6_markOf) ∈ G := mG (sgT3 _ (List.mem_of_getElem? (i := 180) rfl)) rfl
theorem kw560 : (Cond.instanceMethod yX6_markOf) ∈ G := mG (sgT3 _ (List.mem_of_getElem? (i := 181) rfl)) rfl
theorem kw561 : (Cond.selects RX6 yX6_markOf yX6_markOf) ∈ G := mG (sgT3 _ (List.mem_of_getElem? (i := 182) rfl)) rfl
theorem kw562 : (Cond.code yX6_markOf cX6_markOf 2 (some .int)) ∈ G := mG (sgT3 _ (List.mem_of_getElem? (i := 183) rfl)) rfl
theorem kw563 : (Cond.static yX9_markBy) ∈ G := mG (sgT3 _ (List.mem_of_getElem? (i := 185) rfl)) rfl
theorem kw564 : (Cond.code yX9_markBy cX9_markBy 3 (some .int)) ∈ G := mG (sgT3 _ (List.mem_of_getElem? (i := 186) rfl)) rfl
theorem kw565 : (Cond.methodLink RX9 429 yJ9_max_7cf53) ∈ G := mG (sgT3 _ (List.mem_of_getElem? (i := 187) rfl)) rfl
theorem kw566 : (Cond.methodLink RX9 374 yJ9_min_7cf53) ∈ G := mG (sgT3 _ (List.mem_of_getElem? (i := 188) rfl)) rfl
theorem kw567 : (Cond.static yJ9_min_7cf53) ∈ G := mG (sgT3 _ (List.mem_of_getElem? (i := 189) rfl)) rfl
theorem kw568 : (Cond.code yJ9_min_7cf53 cJ9_min_7cf53 2 (some .int)) ∈ G := mG (sgT3 _ (List.mem_of_getElem? (i := 190) rfl)) rfl
theorem kw569 : (Cond.methodLink RX9 161 yX6_weightOf) ∈ G := mG (sgT3 _ (List.mem_of_getElem? (i := 191) rfl)) rfl
theorem kw570 : (Cond.instanceMethod yX6_weightOf) ∈ G := mG (sgT3 _ (List.mem_of_getElem? (i := 192) rfl)) rfl
theorem kw571 : (Cond.selects RX6 yX6_weightOf yX6_weightOf) ∈ G := mG (sgT3 _ (List.mem_of_getElem? (i := 193) rfl)) rfl
theorem kw572 : (Cond.code yX6_weightOf cX6_weightOf 2 (some .int)) ∈ G := mG (sgT3 _ (List.mem_of_getElem? (i := 194) rfl)) rfl
theorem kw573 : (Cond.static yX9_weightBy) ∈ G := mG (sgT3 _ (List.mem_of_getElem? (i := 196) rfl)) rfl
theorem kw574 : (Cond.code yX9_weightBy cX9_weightBy 2 (some .int)) ∈ G := mG (sgT3 _ (List.mem_of_getElem? (i := 197) rfl)) rfl
theorem kw575 : (Cond.methodLink RX9 164 yX6_gradeOf) ∈ G := mG (sgT3 _ (List.mem_of_getElem? (i := 198) rfl)) rfl
theorem kw576 : (Cond.instanceMethod yX6_gradeOf) ∈ G := mG (sgT3 _ (List.mem_of_getElem? (i := 199) rfl)) rfl
theorem kw577 : (Cond.selects RX6 yX6_gradeOf yX6_gradeOf) ∈ G := mG (sgT3 _ (List.mem_of_getElem? (i := 200) rfl)) rfl
theorem kw578 : (Cond.code yX6_gradeOf cX6_gradeOf 7 (some .int)) ∈ G := mG (sgT3 _ (List.mem_of_getElem? (i := 201) rfl)) rfl
theorem kw579 : (Cond.methodLink RL 69 yX9_ruleOf) ∈ G := mG (sgT3 _ (List.mem_of_getElem? (i := 202) rfl)) rfl
theorem kw580 : (Cond.instanceMethod yX9_ruleOf) ∈ G := mG (sgT3 _ (List.mem_of_getElem? (i := 203) rfl)) rfl
theorem kw581 : (Cond.selects RX9 yX9_ruleOf yX9_ruleOf) ∈ G := mG (sgT3 _ (List.mem_of_getElem? (i := 204) rfl)) rfl
theorem kw582 : (Cond.code yX9_ruleOf cX9_ruleOf 3 (some .int)) ∈ G := mG (sgT3 _ (List.mem_of_getElem? (i := 205) rfl)) rfl
theorem kw583 : (Cond.methodLink RX9 168 yX6_hasRule) ∈ G := mG (sgT3 _ (List.mem_of_getElem? (i := 206) rfl)) rfl
theorem kw584 : (Cond.methodLink RX9 171 yX6_lowerOf) ∈ G := mG (sgT3 _ (List.mem_of_getElem? (i := 207) rfl)) rfl
theorem kw585 : (Cond.instanceMethod yX6_lowerOf) ∈ G := mG (sgT3 _ (List.mem_of_getElem? (i := 208) rfl)) rfl
theorem kw586 : (Cond.selects RX6 yX6_lowerOf yX6_lowerOf) ∈ G := mG (sgT3 _ (List.mem_of_getElem? (i := 209) rfl)) rfl
theorem kw587 : (Cond.code yX6_lowerOf cX6_lowerOf 2 (some .int)) ∈ G := mG (sgT3 _ (List.mem_of_getElem? (i := 210) rfl)) rfl
theorem kw588 : (Cond.methodLink RX9 174 yX6_upperOf) ∈ G := mG (sgT3 _ (List.mem_of_getElem? (i := 211) rfl)) rfl
theorem kw589 : (Cond.instanceMethod yX6_upperOf) ∈ G := mG (sgT3 _ (List.mem_of_getElem? (i := 212) rfl)) rfl
theorem kw590 : (Cond.selects RX6 yX6_upperOf yX6_upperOf) ∈ G := mG (sgT3 _ (List.mem_of_getElem? (i := 213) rfl)) rfl
theorem kw591 : (Cond.code yX6_upperOf cX6_upperOf 2 (some .int)) ∈ G := mG (sgT3 _ (List.mem_of_getElem? (i := 214) rfl)) rfl
theorem kw592 : (Cond.methodLink RX9 177 yX6_isBroken) ∈ G := mG (sgT3 _ (List.mem_of_getElem? (i := 215) rfl)) rfl
theorem kw593 : (Cond.instanceMethod yX6_isBroken) ∈ G := mG (sgT3 _ (List.mem_of_getElem? (i := 216) rfl)) rfl
theorem kw594 : (Cond.selects RX6 yX6_isBroken yX6_isBroken) ∈ G := mG (sgT3 _ (List.mem_of_getElem? (i := 217) rfl)) rfl
theorem kw595 : (Cond.code yX6_isBroken cX6_isBroken 2 (some .boolean)) ∈ G := mG (sgT3 _ (List.mem_of_getElem? (i := 218) rfl)) rfl
theorem kw596 : (Cond.methodLink RX6 77 yX6_markOf) ∈ G := mG (sgT3 _ (List.mem_of_getElem? (i := 219) rfl)) rfl
theorem kw597 : (Cond.methodLink RL 73 yX9_under) ∈ G := mG (sgT3 _ (List.mem_of_getElem? (i := 220) rfl)) rfl
theorem kw598 : (Cond.instanceMethod yX9_under) ∈ G := mG (sgT3 _ (List.mem_of_getElem? (i := 221) rfl)) rfl
theorem kw599 : (Cond.selects RX9 yX9_under yX9_under) ∈ G := mG (sgT3 _ (List.mem_of_getElem? (i := 222) rfl)) rfl
theorem kw600 : (Cond.code yX9_under cX9_under 3 (some .int)) ∈ G := mG (sgT3 _ (List.mem_of_getElem? (i := 223) rfl)) rfl
theorem kw601 : (Cond.methodLink RX9 180 yX6_areTwo) ∈ G := mG (sgT3 _ (List.mem_of_getElem? (i := 224) rfl)) rfl
theorem kw602 : (Cond.methodLink RX9 184 yX6_isUnder) ∈ G := mG (sgT3 _ (List.mem_of_getElem? (i := 225) rfl)) rfl
theorem kw603 : (Cond.methodLink RL 77 yX9_pairs) ∈ G := mG (sgT3 _ (List.mem_of_getElem? (i := 226) rfl)) rfl
theorem kw604 : (Cond.instanceMethod yX9_pairs) ∈ G := mG (sgT3 _ (List.mem_of_getElem? (i := 227) rfl)) rfl
theorem kw605 : (Cond.selects RX9 yX9_pairs yX9_pairs) ∈ G := mG (sgT3 _ (List.mem_of_getElem? (i := 228) rfl)) rfl
theorem kw606 : (Cond.code yX9_pairs cX9_pairs 2 (some .int)) ∈ G := mG (sgT3 _ (List.mem_of_getElem? (i := 229) rfl)) rfl
theorem kw607 : (Cond.methodLink RX9 187 yX9_isPart) ∈ G := mG (sgT3 _ (List.mem_of_getElem? (i := 230) rfl)) rfl
theorem kw608 : (Cond.static yX9_isPart) ∈ G := mG (sgT3 _ (List.mem_of_getElem? (i := 231) rfl)) rfl
theorem kw609 : (Cond.code yX9_isPart cX9_isPart 1 (some .boolean)) ∈ G := mG (sgT3 _ (List.mem_of_getElem? (i := 232) rfl)) rfl
theorem kw610 : (Cond.methodLink RX9 190 yX5_work) ∈ G := mG (sgT3 _ (List.mem_of_getElem? (i := 233) rfl)) rfl
theorem kw611 : (Cond.instanceMethod yX5_work) ∈ G := mG (sgT3 _ (List.mem_of_getElem? (i := 234) rfl)) rfl
theorem kw612 : (Cond.selects RX5 yX5_work yX5_work) ∈ G := mG (sgT3 _ (List.mem_of_getElem? (i := 235) rfl)) rfl
theorem kw613 : (Cond.code yX5_work cX5_work 4 none) ∈ G := mG (sgT3 _ (List.mem_of_getElem? (i := 236) rfl)) rfl
theorem kw614 : (Cond.methodLink RX5 29 yX6_paperCount) ∈ G := mG (sgT3 _ (List.mem_of_getElem? (i := 237) rfl)) rfl
theorem kw615 : (Cond.instanceMethod yX6_paperCount) ∈ G := mG (sgT3 _ (List.mem_of_getElem? (i := 238) rfl)) rfl
theorem kw616 : (Cond.selects RX6 yX6_paperCount yX6_paperCount) ∈ G := mG (sgT3 _ (List.mem_of_getElem? (i := 239) rfl)) rfl
theorem kw617 : (Cond.code yX6_paperCount cX6_paperCount 1 (some .int)) ∈ G := mG (sgT4 _ (List.mem_of_getElem? (i := 0) rfl)) rfl
theorem kw618 : (Cond.methodLink RX5 39 yX6_trace) ∈ G := mG (sgT4 _ (List.mem_of_getElem? (i := 1) rfl)) rfl
theorem kw619 : (Cond.methodLink RX5 43 yX6_markOf) ∈ G := mG (sgT4 _ (List.mem_of_getElem? (i := 2) rfl)) rfl
theorem kw620 : (Cond.methodLink RX5 47 yX2_set) ∈ G := mG (sgT4 _ (List.mem_of_getElem? (i := 3) rfl)) rfl
theorem kw621 : (Cond.methodLink RX5 51 yX2_get) ∈ G := mG (sgT4 _ (List.mem_of_getElem? (i := 4) rfl)) rfl
theorem kw622 : (Cond.methodLink RX5 54 yX5_meetOvers) ∈ G := mG (sgT4 _ (List.mem_of_getElem? (i := 5) rfl)) rfl
theorem kw623 : (Cond.instanceMethod yX5_meetOvers) ∈ G := mG (sgT4 _ (List.mem_of_getElem? (i := 7) rfl)) rfl
theorem kw624 : (Cond.code yX5_meetOvers cX5_meetOvers 4 none) ∈ G := mG (sgT4 _ (List.mem_of_getElem? (i := 8) rfl)) rfl
theorem kw625 : (Cond.methodLink RX5 61 yX2_add) ∈ G := mG (sgT4 _ (List.mem_of_getElem? (i := 10) rfl)) rfl
theorem kw626 : (Cond.instanceMethod yX2_add) ∈ G := mG (sgT4 _ (List.mem_of_getElem? (i := 11) rfl)) rfl
theorem kw627 : (Cond.selects RX2 yX2_add yX2_add) ∈ G := mG (sgT4 _ (List.mem_of_getElem? (i := 12) rfl)) rfl
theorem kw628 : (Cond.code yX2_add cX2_add 3 none) ∈ G := mG (sgT4 _ (List.mem_of_getElem? (i := 13) rfl)) rfl
theorem kw629 : (Cond.methodLink RX9 194 yX5_pairCount) ∈ G := mG (sgT4 _ (List.mem_of_getElem? (i := 14) rfl)) rfl
theorem kw630 : (Cond.instanceMethod yX5_pairCount) ∈ G := mG (sgT4 _ (List.mem_of_getElem? (i := 15) rfl)) rfl
theorem kw631 : (Cond.selects RX5 yX5_pairCount yX5_pairCount) ∈ G := mG (sgT4 _ (List.mem_of_getElem? (i := 16) rfl)) rfl
theorem kw632 : (Cond.code yX5_pairCount cX5_pairCount 3 (some .int)) ∈ G := mG (sgT4 _ (List.mem_of_getElem? (i := 17) rfl)) rfl
theorem kw633 : (Cond.methodLink RX5 64 yJ6_bitCount_0f7a4) ∈ G := mG (sgT4 _ (List.mem_of_getElem? (i := 18) rfl)) rfl
theorem kw634 : (Cond.static yJ6_bitCount_0f7a4) ∈ G := mG (sgT4 _ (List.mem_of_getElem? (i := 19) rfl)) rfl
theorem kw635 : (Cond.code yJ6_bitCount_0f7a4 cJ6_bitCount_0f7a4 1 (some .int)) ∈ G := mG (sgT4 _ (List.mem_of_getElem? (i := 20) rfl)) rfl
theorem kw636 : (Cond.constant RJ6 265 (1431655765 : Int32)) ∈ G := mG (sgT4 _ (List.mem_of_getElem? (i := 21) rfl)) rfl
theorem kw637 : (Cond.constant RJ6 266 (858993459 : Int32)) ∈ G := mG (sgT4 _ (List.mem_of_getElem? (i := 22) rfl)) rfl
theorem kw638 : (Cond.constant RJ6 267 (252645135 : Int32)) ∈ G := mG (sgT4 _ (List.mem_of_getElem? (i := 23) rfl)) rfl
theorem kw639 : (Cond.methodLink RX9 197 yX5_fewestToLeave) ∈ G := mG (sgT4 _ (List.mem_of_getElem? (i := 24) rfl)) rfl
theorem kw640 : (Cond.instanceMethod yX5_fewestToLeave) ∈ G := mG (sgT4 _ (List.mem_of_getElem? (i := 25) rfl)) rfl
theorem kw641 : (Cond.selects RX5 yX5_fewestToLeave yX5_fewestToLeave) ∈ G := mG (sgT4 _ (List.mem_of_getElem? (i := 26) rfl)) rfl
theorem kw642 : (Cond.code yX5_fewestToLeave cX5_fewestToLeave 3 (some .int)) ∈ G := mG (sgT4 _ (List.mem_of_getElem? (i := 27) rfl)) rfl
theorem kw643 : (Cond.methodLink RX5 69 yX5_meetsAllPairs) ∈ G := mG (sgT4 _ (List.mem_of_getElem? (i := 28) rfl)) rfl
theorem kw644 : (Cond.instanceMethod yX5_meetsAllPairs) ∈ G := mG (sgT4 _ (List.mem_of_getElem? (i := 30) rfl)) rfl
theorem kw645 : (Cond.code yX5_meetsAllPairs cX5_meetsAllPairs 3 (some .boolean)) ∈ G := mG (sgT4 _ (List.mem_of_getElem? (i := 31) rfl)) rfl
theorem kw646 : (Cond.methodLink RL 81 yX9_line) ∈ G := mG (sgT4 _ (List.mem_of_getElem? (i := 32) rfl)) rfl
theorem kw647 : (Cond.instanceMethod yX9_line) ∈ G := mG (sgT4 _ (List.mem_of_getElem? (i := 33) rfl)) rfl
theorem kw648 : (Cond.selects RX9 yX9_line yX9_line) ∈ G := mG (sgT4 _ (List.mem_of_getElem? (i := 34) rfl)) rfl
theorem kw649 : (Cond.code yX9_line cX9_line 5 (some .long)) ∈ G := mG (sgT4 _ (List.mem_of_getElem? (i := 35) rfl)) rfl
theorem kw650 : (Cond.methodLink RX9 200 yX9_whyNoLineValue) ∈ G := mG (sgT4 _ (List.mem_of_getElem? (i := 36) rfl)) rfl
theorem kw651 : (Cond.instanceMethod yX9_whyNoLineValue) ∈ G := mG (sgT4 _ (List.mem_of_getElem? (i := 38) rfl)) rfl
theorem kw652 : (Cond.code yX9_whyNoLineValue cX9_whyNoLineValue 4 (some .int)) ∈ G := mG (sgT4 _ (List.mem_of_getElem? (i := 39) rfl)) rfl
theorem kw653 : (Cond.methodLink RX9 216 yX9_isLineLoss) ∈ G := mG (sgT4 _ (List.mem_of_getElem? (i := 40) rfl)) rfl
theorem kw654 : (Cond.static yX9_isLineLoss) ∈ G := mG (sgT4 _ (List.mem_of_getElem? (i := 41) rfl)) rfl
theorem kw655 : (Cond.code yX9_isLineLoss cX9_isLineLoss 1 (some .boolean)) ∈ G := mG (sgT4 _ (List.mem_of_getElem? (i := 42) rfl)) rfl
theorem kw656 : (Cond.methodLink RX9 203 yX9_refuseLong) ∈ G := mG (sgT4 _ (List.mem_of_getElem? (i := 43) rfl)) rfl
theorem kw657 : (Cond.instanceMethod yX9_refuseLong) ∈ G := mG (sgT4 _ (List.mem_of_getElem? (i := 45) rfl)) rfl
theorem kw658 : (Cond.code yX9_refuseLong cX9_refuseLong 2 (some .long)) ∈ G := mG (sgT4 _ (List.mem_of_getElem? (i := 46) rfl)) rfl
theorem kw659 : (Cond.constantLong RX9 356 (4000000000000000000 : Int64)) ∈ G := mG (sgT4 _ (List.mem_of_getElem? (i := 47) rfl)) rfl
theorem kw660 : (Cond.methodLink RX9 207 yX4_work) ∈ G := mG (sgT4 _ (List.mem_of_getElem? (i := 48) rfl)) rfl
theorem kw661 : (Cond.instanceMethod yX4_work) ∈ G := mG (sgT4 _ (List.mem_of_getElem? (i := 49) rfl)) rfl
theorem kw662 : (Cond.selects RX4 yX4_work yX4_work) ∈ G := mG (sgT4 _ (List.mem_of_getElem? (i := 50) rfl)) rfl
theorem kw663 : (Cond.code yX4_work cX4_work 3 (Option.some (Jvm.ClassFile.FieldType.object RX8))) ∈ G := mG (sgT4 _ (List.mem_of_getElem? (i := 51) rfl)) rfl
theorem kw664 : (Cond.methodLink RX4 43 yX8_begin) ∈ G := mG (sgT4 _ (List.mem_of_getElem? (i := 52) rfl)) rfl
theorem kw665 : (Cond.instanceMethod yX8_begin) ∈ G := mG (sgT4 _ (List.mem_of_getElem? (i := 53) rfl)) rfl
theorem kw666 : (Cond.selects RX8 yX8_begin yX8_begin) ∈ G := mG (sgT4 _ (List.mem_of_getElem? (i := 54) rfl)) rfl
theorem kw667 : (Cond.code yX8_begin cX8_begin 4 none) ∈ G := mG (sgT4 _ (List.mem_of_getElem? (i := 55) rfl)) rfl
theorem kw668 : (Cond.methodLink RX8 39 yX6_paperCount) ∈ G := mG (sgT4 _ (List.mem_of_getElem? (i := 56) rfl)) rfl
theorem kw669 : (Cond.methodLink RX8 49 yX6_markOf) ∈ G := mG (sgT4 _ (List.mem_of_getElem? (i := 57) rfl)) rfl
theorem kw670 : (Cond.methodLink RX8 53 yX2_set) ∈ G := mG (sgT4 _ (List.mem_of_getElem? (i := 58) rfl)) rfl
theorem kw671 : (Cond.methodLink RX8 57 yX6_weightOf) ∈ G := mG (sgT4 _ (List.mem_of_getElem? (i := 59) rfl)) rfl
theorem kw672 : (Cond.methodLink RX8 60 yX6_placeOf) ∈ G := mG (sgT4 _ (List.mem_of_getElem? (i := 60) rfl)) rfl
theorem kw673 : (Cond.methodLink RX4 47 yX6_tiesNow) ∈ G := mG (sgT4 _ (List.mem_of_getElem? (i := 61) rfl)) rfl
theorem kw674 : (Cond.instanceMethod yX6_tiesNow) ∈ G := mG (sgT4 _ (List.mem_of_getElem? (i := 62) rfl)) rfl
theorem kw675 : (Cond.selects RX6 yX6_tiesNow yX6_tiesNow) ∈ G := mG (sgT4 _ (List.mem_of_getElem? (i := 63) rfl)) rfl
theorem kw676 : (Cond.code yX6_tiesNow cX6_tiesNow 1 (some .int)) ∈ G := mG (sgT4 _ (List.mem_of_getElem? (i := 64) rfl)) rfl
theorem kw677 : (Cond.methodLink RX4 53 yX4_standOneByOne) ∈ G := mG (sgT4 _ (List.mem_of_getElem? (i := 65) rfl)) rfl
theorem kw678 : (Cond.instanceMethod yX4_standOneByOne) ∈ G := mG (sgT4 _ (List.mem_of_getElem? (i := 67) rfl)) rfl
theorem kw679 : (Cond.code yX4_standOneByOne cX4_standOneByOne 4 none) ∈ G := mG (sgT4 _ (List.mem_of_getElem? (i := 68) rfl)) rfl
theorem kw680 : (Cond.methodLink RX4 70 yX8_allPapers) ∈ G := mG (sgT4 _ (List.mem_of_getElem? (i := 69) rfl)) rfl
theorem kw681 : (Cond.instanceMethod yX8_allPapers) ∈ G := mG (sgT4 _ (List.mem_of_getElem? (i := 70) rfl)) rfl
theorem kw682 : (Cond.selects RX8 yX8_allPapers yX8_allPapers) ∈ G := mG (sgT4 _ (List.mem_of_getElem? (i := 71) rfl)) rfl
theorem kw683 : (Cond.code yX8_allPapers cX8_allPapers 1 (some .int)) ∈ G := mG (sgT4 _ (List.mem_of_getElem? (i := 72) rfl)) rfl
theorem kw684 : (Cond.methodLink RX4 73 yX8_paperCount) ∈ G := mG (sgT4 _ (List.mem_of_getElem? (i := 73) rfl)) rfl
theorem kw685 : (Cond.instanceMethod yX8_paperCount) ∈ G := mG (sgT4 _ (List.mem_of_getElem? (i := 74) rfl)) rfl
theorem kw686 : (Cond.selects RX8 yX8_paperCount yX8_paperCount) ∈ G := mG (sgT4 _ (List.mem_of_getElem? (i := 75) rfl)) rfl
theorem kw687 : (Cond.code yX8_paperCount cX8_paperCount 1 (some .int)) ∈ G := mG (sgT4 _ (List.mem_of_getElem? (i := 76) rfl)) rfl
theorem kw688 : (Cond.methodLink RX4 76 yX4_firstOf) ∈ G := mG (sgT4 _ (List.mem_of_getElem? (i := 77) rfl)) rfl
theorem kw689 : (Cond.instanceMethod yX4_firstOf) ∈ G := mG (sgT4 _ (List.mem_of_getElem? (i := 79) rfl)) rfl
theorem kw690 : (Cond.code yX4_firstOf cX4_firstOf 4 (some .int)) ∈ G := mG (sgT4 _ (List.mem_of_getElem? (i := 80) rfl)) rfl
theorem kw691 : (Cond.methodLink RX4 86 yX4_isAhead) ∈ G := mG (sgT4 _ (List.mem_of_getElem? (i := 82) rfl)) rfl
theorem kw692 : (Cond.instanceMethod yX4_isAhead) ∈ G := mG (sgT4 _ (List.mem_of_getElem? (i := 84) rfl)) rfl
theorem kw693 : (Cond.code yX4_isAhead cX4_isAhead 4 (some .boolean)) ∈ G := mG (sgT4 _ (List.mem_of_getElem? (i := 85) rfl)) rfl
theorem kw694 : (Cond.methodLink RX4 95 yX8_placeAt) ∈ G := mG (sgT4 _ (List.mem_of_getElem? (i := 86) rfl)) rfl
theorem kw695 : (Cond.instanceMethod yX8_placeAt) ∈ G := mG (sgT4 _ (List.mem_of_getElem? (i := 87) rfl)) rfl
theorem kw696 : (Cond.selects RX8 yX8_placeAt yX8_placeAt) ∈ G := mG (sgT4 _ (List.mem_of_getElem? (i := 88) rfl)) rfl
theorem kw697 : (Cond.code yX8_placeAt cX8_placeAt 2 (some .int)) ∈ G := mG (sgT4 _ (List.mem_of_getElem? (i := 89) rfl)) rfl
theorem kw698 : (Cond.methodLink RX8 63 yX2_get) ∈ G := mG (sgT4 _ (List.mem_of_getElem? (i := 90) rfl)) rfl
theorem kw699 : (Cond.methodLink RX4 98 yJ6_compare_7cf53) ∈ G := mG (sgT4 _ (List.mem_of_getElem? (i := 91) rfl)) rfl
theorem kw700 : (Cond.static yJ6_compare_7cf53) ∈ G := mG (sgT4 _ (List.mem_of_getElem? (i := 92) rfl)) rfl
theorem kw701 : (Cond.code yJ6_compare_7cf53 cJ6_compare_7cf53 2 (some .int)) ∈ G := mG (sgT4 _ (List.mem_of_getElem? (i := 93) rfl)) rfl
theorem kw702 : (Cond.methodLink RX4 103 yX8_markAt) ∈ G := mG (sgT4 _ (List.mem_of_getElem? (i := 94) rfl)) rfl
theorem kw703 : (Cond.instanceMethod yX8_markAt) ∈ G := mG (sgT4 _ (List.mem_of_getElem? (i := 95) rfl)) rfl
theorem kw704 : (Cond.selects RX8 yX8_markAt yX8_markAt) ∈ G := mG (sgT4 _ (List.mem_of_getElem? (i := 96) rfl)) rfl
theorem kw705 : (Cond.code yX8_markAt cX8_markAt 2 (some .int)) ∈ G := mG (sgT4 _ (List.mem_of_getElem? (i := 97) rfl)) rfl
theorem kw706 : (Cond.methodLink RX4 89 yJ9_max_7cf53) ∈ G := mG (sgT4 _ (List.mem_of_getElem? (i := 98) rfl)) rfl
theorem kw707 : (Cond.methodLink RX4 79 yX4_standBehind) ∈ G := mG (sgT4 _ (List.mem_of_getElem? (i := 99) rfl)) rfl
theorem kw708 : (Cond.instanceMethod yX4_standBehind) ∈ G := mG (sgT4 _ (List.mem_of_getElem? (i := 101) rfl)) rfl
theorem kw709 : (Cond.code yX4_standBehind cX4_standBehind 2 none) ∈ G := mG (sgT4 _ (List.mem_of_getElem? (i := 102) rfl)) rfl
theorem kw710 : (Cond.methodLink RX4 109 yX2_set) ∈ G := mG (sgT4 _ (List.mem_of_getElem? (i := 103) rfl)) rfl
theorem kw711 : (Cond.methodLink RX4 56 yX4_standByPlaces) ∈ G := mG (sgT4 _ (List.mem_of_getElem? (i := 104) rfl)) rfl
theorem kw712 : (Cond.instanceMethod yX4_standByPlaces) ∈ G := mG (sgT4 _ (List.mem_of_getElem? (i := 106) rfl)) rfl
theorem kw713 : (Cond.code yX4_standByPlaces cX4_standByPlaces 3 none) ∈ G := mG (sgT4 _ (List.mem_of_getElem? (i := 107) rfl)) rfl
theorem kw714 : (Cond.methodLink RX4 106 yX8_papersAt) ∈ G := mG (sgT4 _ (List.mem_of_getElem? (i := 108) rfl)) rfl
theorem kw715 : (Cond.instanceMethod yX8_papersAt) ∈ G := mG (sgT4 _ (List.mem_of_getElem? (i := 109) rfl)) rfl
theorem kw716 : (Cond.selects RX8 yX8_papersAt yX8_papersAt) ∈ G := mG (sgT4 _ (List.mem_of_getElem? (i := 110) rfl)) rfl
theorem kw717 : (Cond.code yX8_papersAt cX8_papersAt 4 (some .int)) ∈ G := mG (sgT4 _ (List.mem_of_getElem? (i := 111) rfl)) rfl
theorem kw718 : (Cond.methodLink RX4 59 yX4_mergeAll) ∈ G := mG (sgT4 _ (List.mem_of_getElem? (i := 112) rfl)) rfl
theorem kw719 : (Cond.instanceMethod yX4_mergeAll) ∈ G := mG (sgT4 _ (List.mem_of_getElem? (i := 114) rfl)) rfl
theorem kw720 : (Cond.code yX4_mergeAll cX4_mergeAll 3 none) ∈ G := mG (sgT4 _ (List.mem_of_getElem? (i := 115) rfl)) rfl
theorem kw721 : (Cond.methodLink RX4 119 yX4_measure) ∈ G := mG (sgT4 _ (List.mem_of_getElem? (i := 116) rfl)) rfl
theorem kw722 : (Cond.instanceMethod yX4_measure) ∈ G := mG (sgT4 _ (List.mem_of_getElem? (i := 118) rfl)) rfl
theorem kw723 : (Cond.code yX4_measure cX4_measure 2 none) ∈ G := mG (sgT4 _ (List.mem_of_getElem? (i := 119) rfl)) rfl
theorem kw724 : (Cond.methodLink RX4 66 yX2_get) ∈ G := mG (sgT4 _ (List.mem_of_getElem? (i := 120) rfl)) rfl
theorem kw725 : (Cond.methodLink RX4 113 yX4_numberTop) ∈ G := mG (sgT4 _ (List.mem_of_getElem? (i := 121) rfl)) rfl
theorem kw726 : (Cond.instanceMethod yX4_numberTop) ∈ G := mG (sgT4 _ (List.mem_of_getElem? (i := 123) rfl)) rfl
theorem kw727 : (Cond.code yX4_numberTop cX4_numberTop 2 (some .int)) ∈ G := mG (sgT4 _ (List.mem_of_getElem? (i := 124) rfl)) rfl
theorem kw728 : (Cond.methodLink RX4 141 yX8_middleOf) ∈ G := mG (sgT4 _ (List.mem_of_getElem? (i := 125) rfl)) rfl
theorem kw729 : (Cond.instanceMethod yX8_middleOf) ∈ G := mG (sgT4 _ (List.mem_of_getElem? (i := 126) rfl)) rfl
theorem kw730 : (Cond.selects RX8 yX8_middleOf yX8_middleOf) ∈ G := mG (sgT4 _ (List.mem_of_getElem? (i := 127) rfl)) rfl
theorem kw731 : (Cond.code yX8_middleOf cX8_middleOf 7 (some .int)) ∈ G := mG (sgT4 _ (List.mem_of_getElem? (i := 128) rfl)) rfl
theorem kw732 : (Cond.methodLink RX8 70 yX8_weightOf) ∈ G := mG (sgT4 _ (List.mem_of_getElem? (i := 129) rfl)) rfl
theorem kw733 : (Cond.instanceMethod yX8_weightOf) ∈ G := mG (sgT4 _ (List.mem_of_getElem? (i := 130) rfl)) rfl
theorem kw734 : (Cond.selects RX8 yX8_weightOf yX8_weightOf) ∈ G := mG (sgT4 _ (List.mem_of_getElem? (i := 131) rfl)) rfl
theorem kw735 : (Cond.code yX8_weightOf cX8_weightOf 4 (some .int)) ∈ G := mG (sgT4 _ (List.mem_of_getElem? (i := 132) rfl)) rfl
theorem kw736 : (Cond.methodLink RX8 71 yX8_papersUpTo) ∈ G := mG (sgT4 _ (List.mem_of_getElem? (i := 134) rfl)) rfl
theorem kw737 : (Cond.instanceMethod yX8_papersUpTo) ∈ G := mG (sgT4 _ (List.mem_of_getElem? (i := 135) rfl)) rfl
theorem kw738 : (Cond.selects RX8 yX8_papersUpTo yX8_papersUpTo) ∈ G := mG (sgT4 _ (List.mem_of_getElem? (i := 136) rfl)) rfl
theorem kw739 : (Cond.code yX8_papersUpTo cX8_papersUpTo 4 (some .int)) ∈ G := mG (sgT4 _ (List.mem_of_getElem? (i := 137) rfl)) rfl
theorem kw740 : (Cond.methodLink RX4 144 yX8_sumOf) ∈ G := mG (sgT4 _ (List.mem_of_getElem? (i := 138) rfl)) rfl
theorem kw741 : (Cond.instanceMethod yX8_sumOf) ∈ G := mG (sgT4 _ (List.mem_of_getElem? (i := 139) rfl)) rfl
theorem kw742 : (Cond.selects RX8 yX8_sumOf yX8_sumOf) ∈ G := mG (sgT4 _ (List.mem_of_getElem? (i := 140) rfl)) rfl
theorem kw743 : (Cond.code yX8_sumOf cX8_sumOf 4 (some .int)) ∈ G := mG (sgT4 _ (List.mem_of_getElem? (i := 141) rfl)) rfl
theorem kw744 : (Cond.methodLink RX4 116 yX4_numberBottom) ∈ G := mG (sgT4 _ (List.mem_of_getElem? (i := 142) rfl)) rfl
theorem kw745 : (Cond.instanceMethod yX4_numberBottom) ∈ G := mG (sgT4 _ (List.mem_of_getElem? (i := 144) rfl)) rfl
theorem kw746 : (Cond.code yX4_numberBottom cX4_numberBottom 2 (some .int)) ∈ G := mG (sgT4 _ (List.mem_of_getElem? (i := 145) rfl)) rfl
theorem kw747 : (Cond.methodLink RX4 147 yX8_weightOf) ∈ G := mG (sgT4 _ (List.mem_of_getElem? (i := 146) rfl)) rfl
theorem kw748 : (Cond.methodLink RX4 122 yX4_firstToMerge) ∈ G := mG (sgT4 _ (List.mem_of_getElem? (i := 147) rfl)) rfl
theorem kw749 : (Cond.instanceMethod yX4_firstToMerge) ∈ G := mG (sgT4 _ (List.mem_of_getElem? (i := 149) rfl)) rfl
theorem kw750 : (Cond.code yX4_firstToMerge cX4_firstToMerge 2 (some .int)) ∈ G := mG (sgT4 _ (List.mem_of_getElem? (i := 150) rfl)) rfl
theorem kw751 : (Cond.methodLink RX4 125 yX4_mergeWithNext) ∈ G := mG (sgT4 _ (List.mem_of_getElem? (i := 151) rfl)) rfl
theorem kw752 : (Cond.instanceMethod yX4_mergeWithNext) ∈ G := mG (sgT4 _ (List.mem_of_getElem? (i := 153) rfl)) rfl
theorem kw753 : (Cond.code yX4_mergeWithNext cX4_mergeWithNext 2 none) ∈ G := mG (sgT4 _ (List.mem_of_getElem? (i := 154) rfl)) rfl
theorem kw754 : (Cond.methodLink RX4 128 yX2_add) ∈ G := mG (sgT4 _ (List.mem_of_getElem? (i := 155) rfl)) rfl
theorem kw755 : (Cond.methodLink RX4 131 yX2_removeAt) ∈ G := mG (sgT4 _ (List.mem_of_getElem? (i := 156) rfl)) rfl
theorem kw756 : (Cond.methodLink RX4 62 yX4_layAll) ∈ G := mG (sgT4 _ (List.mem_of_getElem? (i := 157) rfl)) rfl
theorem kw757 : (Cond.instanceMethod yX4_layAll) ∈ G := mG (sgT4 _ (List.mem_of_getElem? (i := 159) rfl)) rfl
theorem kw758 : (Cond.code yX4_layAll cX4_layAll 3 none) ∈ G := mG (sgT4 _ (List.mem_of_getElem? (i := 160) rfl)) rfl
theorem kw759 : (Cond.methodLink RX4 134 yX4_layByMeans) ∈ G := mG (sgT4 _ (List.mem_of_getElem? (i := 161) rfl)) rfl
theorem kw760 : (Cond.instanceMethod yX4_layByMeans) ∈ G := mG (sgT4 _ (List.mem_of_getElem? (i := 163) rfl)) rfl
theorem kw761 : (Cond.code yX4_layByMeans cX4_layByMeans 14 none) ∈ G := mG (sgT4 _ (List.mem_of_getElem? (i := 164) rfl)) rfl
theorem kw762 : (Cond.methodLink RX4 137 yX8_lay) ∈ G := mG (sgT4 _ (List.mem_of_getElem? (i := 165) rfl)) rfl
theorem kw763 : (Cond.instanceMethod yX8_lay) ∈ G := mG (sgT4 _ (List.mem_of_getElem? (i := 166) rfl)) rfl
theorem kw764 : (Cond.selects RX8 yX8_lay yX8_lay) ∈ G := mG (sgT4 _ (List.mem_of_getElem? (i := 167) rfl)) rfl
theorem kw765 : (Cond.code yX8_lay cX8_lay 7 none) ∈ G := mG (sgT4 _ (List.mem_of_getElem? (i := 168) rfl)) rfl
theorem kw766 : (Cond.methodLink RX8 83 yX1_make) ∈ G := mG (sgT4 _ (List.mem_of_getElem? (i := 169) rfl)) rfl
theorem kw767 : (Cond.instanceMethod yX1_make) ∈ G := mG (sgT4 _ (List.mem_of_getElem? (i := 170) rfl)) rfl
theorem kw768 : (Cond.selects RX1 yX1_make yX1_make) ∈ G := mG (sgT4 _ (List.mem_of_getElem? (i := 171) rfl)) rfl
theorem kw769 : (Cond.code yX1_make cX1_make 7 none) ∈ G := mG (sgT4 _ (List.mem_of_getElem? (i := 172) rfl)) rfl
theorem kw770 : (Cond.methodLink RX1 13 yX1_commonOf) ∈ G := mG (sgT4 _ (List.mem_of_getElem? (i := 173) rfl)) rfl
theorem kw771 : (Cond.static yX1_commonOf) ∈ G := mG (sgT4 _ (List.mem_of_getElem? (i := 174) rfl)) rfl
theorem kw772 : (Cond.code yX1_commonOf cX1_commonOf 11 (some .long)) ∈ G := mG (sgT4 _ (List.mem_of_getElem? (i := 175) rfl)) rfl
theorem kw773 : (Cond.methodLink RX8 87 yX1_partOf) ∈ G := mG (sgT4 _ (List.mem_of_getElem? (i := 176) rfl)) rfl
theorem kw774 : (Cond.instanceMethod yX1_partOf) ∈ G := mG (sgT4 _ (List.mem_of_getElem? (i := 177) rfl)) rfl
theorem kw775 : (Cond.selects RX1 yX1_partOf yX1_partOf) ∈ G := mG (sgT4 _ (List.mem_of_getElem? (i := 178) rfl)) rfl
theorem kw776 : (Cond.code yX1_partOf cX1_partOf 2 (some .long)) ∈ G := mG (sgT4 _ (List.mem_of_getElem? (i := 179) rfl)) rfl
theorem kw777 : (Cond.methodLink RX9 210 yX8_partOf) ∈ G := mG (sgT4 _ (List.mem_of_getElem? (i := 180) rfl)) rfl
theorem kw778 : (Cond.instanceMethod yX8_partOf) ∈ G := mG (sgT4 _ (List.mem_of_getElem? (i := 181) rfl)) rfl
theorem kw779 : (Cond.selects RX8 yX8_partOf yX8_partOf) ∈ G := mG (sgT4 _ (List.mem_of_getElem? (i := 182) rfl)) rfl
theorem kw780 : (Cond.code yX8_partOf cX8_partOf 3 (some .long)) ∈ G := mG (sgT4 _ (List.mem_of_getElem? (i := 183) rfl)) rfl
theorem kw781 : (Cond.methodLink RL 86 yX9_block) ∈ G := mG (sgT4 _ (List.mem_of_getElem? (i := 184) rfl)) rfl
theorem kw782 : (Cond.instanceMethod yX9_block) ∈ G := mG (sgT4 _ (List.mem_of_getElem? (i := 185) rfl)) rfl
theorem kw783 : (Cond.selects RX9 yX9_block yX9_block) ∈ G := mG (sgT4 _ (List.mem_of_getElem? (i := 186) rfl)) rfl
theorem kw784 : (Cond.code yX9_block cX9_block 3 (some .int)) ∈ G := mG (sgT4 _ (List.mem_of_getElem? (i := 187) rfl)) rfl
theorem kw785 : (Cond.methodLink RX9 219 yX4_blockCount) ∈ G := mG (sgT4 _ (List.mem_of_getElem? (i := 188) rfl)) rfl
theorem kw786 : (Cond.instanceMethod yX4_blockCount) ∈ G := mG (sgT4 _ (List.mem_of_getElem? (i := 189) rfl)) rfl
theorem kw787 : (Cond.selects RX4 yX4_blockCount yX4_blockCount) ∈ G := mG (sgT4 _ (List.mem_of_getElem? (i := 190) rfl)) rfl
theorem kw788 : (Cond.code yX4_blockCount cX4_blockCount 1 (some .int)) ∈ G := mG (sgT4 _ (List.mem_of_getElem? (i := 191) rfl)) rfl
theorem kw789 : (Cond.methodLink RX9 222 yX4_blockAt) ∈ G := mG (sgT4 _ (List.mem_of_getElem? (i := 192) rfl)) rfl
theorem kw790 : (Cond.instanceMethod yX4_blockAt) ∈ G := mG (sgT4 _ (List.mem_of_getElem? (i := 193) rfl)) rfl
theorem kw791 : (Cond.selects RX4 yX4_blockAt yX4_blockAt) ∈ G := mG (sgT4 _ (List.mem_of_getElem? (i := 194) rfl)) rfl
theorem kw792 : (Cond.code yX4_blockAt cX4_blockAt 2 (some .int)) ∈ G := mG (sgT4 _ (List.mem_of_getElem? (i := 195) rfl)) rfl
theorem kw793 : (Cond.methodLink RL 90 yX9_merges) ∈ G := mG (sgT4 _ (List.mem_of_getElem? (i := 196) rfl)) rfl
theorem kw794 : (Cond.instanceMethod yX9_merges) ∈ G := mG (sgT4 _ (List.mem_of_getElem? (i := 197) rfl)) rfl
theorem kw795 : (Cond.selects RX9 yX9_merges yX9_merges) ∈ G := mG (sgT4 _ (List.mem_of_getElem? (i := 198) rfl)) rfl
theorem kw796 : (Cond.code yX9_merges cX9_merges 2 (some .int)) ∈ G := mG (sgT4 _ (List.mem_of_getElem? (i := 199) rfl)) rfl
theorem kw797 : (Cond.methodLink RX9 225 yX4_mergeCount) ∈ G := mG (sgT4 _ (List.mem_of_getElem? (i := 200) rfl)) rfl
theorem kw798 : (Cond.instanceMethod yX4_mergeCount) ∈ G := mG (sgT4 _ (List.mem_of_getElem? (i := 201) rfl)) rfl
theorem kw799 : (Cond.selects RX4 yX4_mergeCount yX4_mergeCount) ∈ G := mG (sgT4 _ (List.mem_of_getElem? (i := 202) rfl)) rfl
theorem kw800 : (Cond.code yX4_mergeCount cX4_mergeCount 1 (some .int)) ∈ G := mG (sgT4 _ (List.mem_of_getElem? (i := 203) rfl)) rfl
theorem kw801 : (Cond.methodLink RL 94 yX9_lineChange) ∈ G := mG (sgT4 _ (List.mem_of_getElem? (i := 204) rfl)) rfl
theorem kw802 : (Cond.instanceMethod yX9_lineChange) ∈ G := mG (sgT4 _ (List.mem_of_getElem? (i := 205) rfl)) rfl
theorem kw803 : (Cond.selects RX9 yX9_lineChange yX9_lineChange) ∈ G := mG (sgT4 _ (List.mem_of_getElem? (i := 206) rfl)) rfl
theorem kw804 : (Cond.code yX9_lineChange cX9_lineChange 3 (some .long)) ∈ G := mG (sgT4 _ (List.mem_of_getElem? (i := 207) rfl)) rfl
theorem kw805 : (Cond.methodLink RX9 228 yX8_workChange) ∈ G := mG (sgT4 _ (List.mem_of_getElem? (i := 208) rfl)) rfl
theorem kw806 : (Cond.instanceMethod yX8_workChange) ∈ G := mG (sgT4 _ (List.mem_of_getElem? (i := 209) rfl)) rfl
theorem kw807 : (Cond.selects RX8 yX8_workChange yX8_workChange) ∈ G := mG (sgT4 _ (List.mem_of_getElem? (i := 210) rfl)) rfl
theorem kw808 : (Cond.code yX8_workChange cX8_workChange 5 none) ∈ G := mG (sgT4 _ (List.mem_of_getElem? (i := 211) rfl)) rfl
theorem kw809 : (Cond.methodLink RX8 95 yX8_addChange) ∈ G := mG (sgT4 _ (List.mem_of_getElem? (i := 212) rfl)) rfl
theorem kw810 : (Cond.instanceMethod yX8_addChange) ∈ G := mG (sgT4 _ (List.mem_of_getElem? (i := 214) rfl)) rfl
theorem kw811 : (Cond.code yX8_addChange cX8_addChange 8 none) ∈ G := mG (sgT4 _ (List.mem_of_getElem? (i := 215) rfl)) rfl
theorem kw812 : (Cond.methodLink RX8 99 yJ9_abs_067f4) ∈ G := mG (sgT4 _ (List.mem_of_getElem? (i := 216) rfl)) rfl
theorem kw813 : (Cond.static yJ9_abs_067f4) ∈ G := mG (sgT4 _ (List.mem_of_getElem? (i := 217) rfl)) rfl
theorem kw814 : (Cond.code yJ9_abs_067f4 cJ9_abs_067f4 2 (some .long)) ∈ G := mG (sgT4 _ (List.mem_of_getElem? (i := 218) rfl)) rfl
theorem kw815 : (Cond.methodLink RX8 105 yX1_add) ∈ G := mG (sgT4 _ (List.mem_of_getElem? (i := 219) rfl)) rfl
theorem kw816 : (Cond.instanceMethod yX1_add) ∈ G := mG (sgT4 _ (List.mem_of_getElem? (i := 220) rfl)) rfl
theorem kw817 : (Cond.selects RX1 yX1_add yX1_add) ∈ G := mG (sgT4 _ (List.mem_of_getElem? (i := 221) rfl)) rfl
theorem kw818 : (Cond.code yX1_add cX1_add 7 none) ∈ G := mG (sgT4 _ (List.mem_of_getElem? (i := 222) rfl)) rfl
theorem kw819 : (Cond.methodLink RX1 20 yX1_make) ∈ G := mG (sgT4 _ (List.mem_of_getElem? (i := 223) rfl)) rfl
theorem kw820 : (Cond.methodLink RX8 108 yX1_isBelow) ∈ G := mG (sgT4 _ (List.mem_of_getElem? (i := 224) rfl)) rfl
theorem kw821 : (Cond.instanceMethod yX1_isBelow) ∈ G := mG (sgT4 _ (List.mem_of_getElem? (i := 225) rfl)) rfl
theorem kw822 : (Cond.selects RX1 yX1_isBelow yX1_isBelow) ∈ G := mG (sgT4 _ (List.mem_of_getElem? (i := 226) rfl)) rfl
theorem kw823 : (Cond.code yX1_isBelow cX1_isBelow 5 (some .boolean)) ∈ G := mG (sgT4 _ (List.mem_of_getElem? (i := 227) rfl)) rfl
theorem kw824 : (Cond.methodLink RX9 232 yX1_partOf) ∈ G := mG (sgT4 _ (List.mem_of_getElem? (i := 228) rfl)) rfl
theorem kw825 : (Cond.methodLink RL 99 yX9_value) ∈ G := mG (sgT4 _ (List.mem_of_getElem? (i := 229) rfl)) rfl
theorem kw826 : (Cond.instanceMethod yX9_value) ∈ G := mG (sgT4 _ (List.mem_of_getElem? (i := 230) rfl)) rfl
theorem kw827 : (Cond.selects RX9 yX9_value yX9_value) ∈ G := mG (sgT4 _ (List.mem_of_getElem? (i := 231) rfl)) rfl
theorem kw828 : (Cond.code yX9_value cX9_value 5 (some .long)) ∈ G := mG (sgT4 _ (List.mem_of_getElem? (i := 232) rfl)) rfl
theorem kw829 : (Cond.methodLink RX9 234 yX9_whyNoValue) ∈ G := mG (sgT4 _ (List.mem_of_getElem? (i := 233) rfl)) rfl
theorem kw830 : (Cond.instanceMethod yX9_whyNoValue) ∈ G := mG (sgT4 _ (List.mem_of_getElem? (i := 235) rfl)) rfl
theorem kw831 : (Cond.code yX9_whyNoValue cX9_whyNoValue 3 (some .int)) ∈ G := mG (sgT4 _ (List.mem_of_getElem? (i := 236) rfl)) rfl
theorem kw832 : (Cond.methodLink RX9 244 yX9_isLoss) ∈ G := mG (sgT4 _ (List.mem_of_getElem? (i := 237) rfl)) rfl
theorem kw833 : (Cond.static yX9_isLoss) ∈ G := mG (sgT4 _ (List.mem_of_getElem? (i := 238) rfl)) rfl
theorem kw834 : (Cond.code yX9_isLoss cX9_isLoss 1 (some .boolean)) ∈ G := mG (sgT4 _ (List.mem_of_getElem? (i := 239) rfl)) rfl
theorem kw835 : (Cond.methodLink RX9 237 yX0_work) ∈ G := mG (sgT5 _ (List.mem_of_getElem? (i := 0) rfl)) rfl
theorem kw836 : (Cond.instanceMethod yX0_work) ∈ G := mG (sgT5 _ (List.mem_of_getElem? (i := 1) rfl)) rfl
theorem kw837 : (Cond.selects RX0 yX0_work yX0_work) ∈ G := mG (sgT5 _ (List.mem_of_getElem? (i := 2) rfl)) rfl
theorem kw838 : (Cond.code yX0_work cX0_work 4 (Option.some (Jvm.ClassFile.FieldType.object RX8))) ∈ G := mG (sgT5 _ (List.mem_of_getElem? (i := 3) rfl)) rfl
theorem kw839 : (Cond.methodLink RX0 40 yX8_begin) ∈ G := mG (sgT5 _ (List.mem_of_getElem? (i := 4) rfl)) rfl
theorem kw840 : (Cond.methodLink RX0 44 yX8_breakAny) ∈ G := mG (sgT5 _ (List.mem_of_getElem? (i := 5) rfl)) rfl
theorem kw841 : (Cond.instanceMethod yX8_breakAny) ∈ G := mG (sgT5 _ (List.mem_of_getElem? (i := 6) rfl)) rfl
theorem kw842 : (Cond.selects RX8 yX8_breakAny yX8_breakAny) ∈ G := mG (sgT5 _ (List.mem_of_getElem? (i := 7) rfl)) rfl
theorem kw843 : (Cond.code yX8_breakAny cX8_breakAny 4 (some .boolean)) ∈ G := mG (sgT5 _ (List.mem_of_getElem? (i := 8) rfl)) rfl
theorem kw844 : (Cond.methodLink RX8 74 yX6_ruleCount) ∈ G := mG (sgT5 _ (List.mem_of_getElem? (i := 9) rfl)) rfl
theorem kw845 : (Cond.instanceMethod yX6_ruleCount) ∈ G := mG (sgT5 _ (List.mem_of_getElem? (i := 10) rfl)) rfl
theorem kw846 : (Cond.selects RX6 yX6_ruleCount yX6_ruleCount) ∈ G := mG (sgT5 _ (List.mem_of_getElem? (i := 11) rfl)) rfl
theorem kw847 : (Cond.code yX6_ruleCount cX6_ruleCount 1 (some .int)) ∈ G := mG (sgT5 _ (List.mem_of_getElem? (i := 12) rfl)) rfl
theorem kw848 : (Cond.methodLink RX8 77 yX6_lowerOf) ∈ G := mG (sgT5 _ (List.mem_of_getElem? (i := 13) rfl)) rfl
theorem kw849 : (Cond.methodLink RX8 80 yX6_upperOf) ∈ G := mG (sgT5 _ (List.mem_of_getElem? (i := 14) rfl)) rfl
theorem kw850 : (Cond.methodLink RX0 48 yX5_work) ∈ G := mG (sgT5 _ (List.mem_of_getElem? (i := 15) rfl)) rfl
theorem kw851 : (Cond.methodLink RX0 52 yX0_layHalfways) ∈ G := mG (sgT5 _ (List.mem_of_getElem? (i := 16) rfl)) rfl
theorem kw852 : (Cond.instanceMethod yX0_layHalfways) ∈ G := mG (sgT5 _ (List.mem_of_getElem? (i := 18) rfl)) rfl
theorem kw853 : (Cond.code yX0_layHalfways cX0_layHalfways 5 none) ∈ G := mG (sgT5 _ (List.mem_of_getElem? (i := 19) rfl)) rfl
theorem kw854 : (Cond.methodLink RX0 64 yX8_paperCount) ∈ G := mG (sgT5 _ (List.mem_of_getElem? (i := 20) rfl)) rfl
theorem kw855 : (Cond.methodLink RX0 68 yX8_markAt) ∈ G := mG (sgT5 _ (List.mem_of_getElem? (i := 21) rfl)) rfl
theorem kw856 : (Cond.methodLink RX0 72 yX5_undersOf) ∈ G := mG (sgT5 _ (List.mem_of_getElem? (i := 22) rfl)) rfl
theorem kw857 : (Cond.instanceMethod yX5_undersOf) ∈ G := mG (sgT5 _ (List.mem_of_getElem? (i := 23) rfl)) rfl
theorem kw858 : (Cond.selects RX5 yX5_undersOf yX5_undersOf) ∈ G := mG (sgT5 _ (List.mem_of_getElem? (i := 24) rfl)) rfl
theorem kw859 : (Cond.code yX5_undersOf cX5_undersOf 2 (some .int)) ∈ G := mG (sgT5 _ (List.mem_of_getElem? (i := 25) rfl)) rfl
theorem kw860 : (Cond.methodLink RX0 79 yJ9_max_7cf53) ∈ G := mG (sgT5 _ (List.mem_of_getElem? (i := 27) rfl)) rfl
theorem kw861 : (Cond.methodLink RX0 85 yX5_oversOf) ∈ G := mG (sgT5 _ (List.mem_of_getElem? (i := 28) rfl)) rfl
theorem kw862 : (Cond.instanceMethod yX5_oversOf) ∈ G := mG (sgT5 _ (List.mem_of_getElem? (i := 29) rfl)) rfl
theorem kw863 : (Cond.selects RX5 yX5_oversOf yX5_oversOf) ∈ G := mG (sgT5 _ (List.mem_of_getElem? (i := 30) rfl)) rfl
theorem kw864 : (Cond.code yX5_oversOf cX5_oversOf 2 (some .int)) ∈ G := mG (sgT5 _ (List.mem_of_getElem? (i := 31) rfl)) rfl
theorem kw865 : (Cond.methodLink RX0 88 yJ9_min_7cf53) ∈ G := mG (sgT5 _ (List.mem_of_getElem? (i := 32) rfl)) rfl
theorem kw866 : (Cond.constantLong RX0 91 (2 : Int64)) ∈ G := mG (sgT5 _ (List.mem_of_getElem? (i := 33) rfl)) rfl
theorem kw867 : (Cond.methodLink RX0 93 yX8_lay) ∈ G := mG (sgT5 _ (List.mem_of_getElem? (i := 34) rfl)) rfl
theorem kw868 : (Cond.methodLink RX0 55 yX0_fillSets) ∈ G := mG (sgT5 _ (List.mem_of_getElem? (i := 35) rfl)) rfl
theorem kw869 : (Cond.instanceMethod yX0_fillSets) ∈ G := mG (sgT5 _ (List.mem_of_getElem? (i := 37) rfl)) rfl
theorem kw870 : (Cond.code yX0_fillSets cX0_fillSets 5 none) ∈ G := mG (sgT5 _ (List.mem_of_getElem? (i := 38) rfl)) rfl
theorem kw871 : (Cond.methodLink RX0 97 yX8_weightAt) ∈ G := mG (sgT5 _ (List.mem_of_getElem? (i := 39) rfl)) rfl
theorem kw872 : (Cond.instanceMethod yX8_weightAt) ∈ G := mG (sgT5 _ (List.mem_of_getElem? (i := 40) rfl)) rfl
theorem kw873 : (Cond.selects RX8 yX8_weightAt yX8_weightAt) ∈ G := mG (sgT5 _ (List.mem_of_getElem? (i := 41) rfl)) rfl
theorem kw874 : (Cond.code yX8_weightAt cX8_weightAt 2 (some .int)) ∈ G := mG (sgT5 _ (List.mem_of_getElem? (i := 42) rfl)) rfl
theorem kw875 : (Cond.methodLink RX0 100 yX2_get) ∈ G := mG (sgT5 _ (List.mem_of_getElem? (i := 43) rfl)) rfl
theorem kw876 : (Cond.methodLink RX0 103 yX2_set) ∈ G := mG (sgT5 _ (List.mem_of_getElem? (i := 44) rfl)) rfl
theorem kw877 : (Cond.methodLink RX0 58 yX0_layLeastSquares) ∈ G := mG (sgT5 _ (List.mem_of_getElem? (i := 45) rfl)) rfl
theorem kw878 : (Cond.instanceMethod yX0_layLeastSquares) ∈ G := mG (sgT5 _ (List.mem_of_getElem? (i := 47) rfl)) rfl
theorem kw879 : (Cond.code yX0_layLeastSquares cX0_layLeastSquares 4 none) ∈ G := mG (sgT5 _ (List.mem_of_getElem? (i := 48) rfl)) rfl
theorem kw880 : (Cond.methodLink RX0 107 yX8_allPapers) ∈ G := mG (sgT5 _ (List.mem_of_getElem? (i := 49) rfl)) rfl
theorem kw881 : (Cond.methodLink RX0 110 yX0_leastByMean) ∈ G := mG (sgT5 _ (List.mem_of_getElem? (i := 50) rfl)) rfl
theorem kw882 : (Cond.instanceMethod yX0_leastByMean) ∈ G := mG (sgT5 _ (List.mem_of_getElem? (i := 52) rfl)) rfl
theorem kw883 : (Cond.code yX0_leastByMean cX0_leastByMean 4 (some .int)) ∈ G := mG (sgT5 _ (List.mem_of_getElem? (i := 53) rfl)) rfl
theorem kw884 : (Cond.methodLink RX0 113 yX0_isLow) ∈ G := mG (sgT5 _ (List.mem_of_getElem? (i := 54) rfl)) rfl
theorem kw885 : (Cond.instanceMethod yX0_isLow) ∈ G := mG (sgT5 _ (List.mem_of_getElem? (i := 56) rfl)) rfl
theorem kw886 : (Cond.code yX0_isLow cX0_isLow 3 (some .boolean)) ∈ G := mG (sgT5 _ (List.mem_of_getElem? (i := 57) rfl)) rfl
theorem kw887 : (Cond.methodLink RX0 61 yX0_layLeastAbsolutes) ∈ G := mG (sgT5 _ (List.mem_of_getElem? (i := 58) rfl)) rfl
theorem kw888 : (Cond.instanceMethod yX0_layLeastAbsolutes) ∈ G := mG (sgT5 _ (List.mem_of_getElem? (i := 60) rfl)) rfl
theorem kw889 : (Cond.code yX0_layLeastAbsolutes cX0_layLeastAbsolutes 6 none) ∈ G := mG (sgT5 _ (List.mem_of_getElem? (i := 61) rfl)) rfl
theorem kw890 : (Cond.methodLink RX0 116 yX0_leastMarkAbove) ∈ G := mG (sgT5 _ (List.mem_of_getElem? (i := 62) rfl)) rfl
theorem kw891 : (Cond.instanceMethod yX0_leastMarkAbove) ∈ G := mG (sgT5 _ (List.mem_of_getElem? (i := 64) rfl)) rfl
theorem kw892 : (Cond.code yX0_leastMarkAbove cX0_leastMarkAbove 5 (some .int)) ∈ G := mG (sgT5 _ (List.mem_of_getElem? (i := 65) rfl)) rfl
theorem kw893 : (Cond.methodLink RX0 119 yX8_papersUpTo) ∈ G := mG (sgT5 _ (List.mem_of_getElem? (i := 66) rfl)) rfl
theorem kw894 : (Cond.methodLink RX0 122 yX0_cheapest) ∈ G := mG (sgT5 _ (List.mem_of_getElem? (i := 67) rfl)) rfl
theorem kw895 : (Cond.instanceMethod yX0_cheapest) ∈ G := mG (sgT5 _ (List.mem_of_getElem? (i := 69) rfl)) rfl
theorem kw896 : (Cond.code yX0_cheapest cX0_cheapest 7 (some .int)) ∈ G := mG (sgT5 _ (List.mem_of_getElem? (i := 70) rfl)) rfl
theorem kw897 : (Cond.methodLink RL 103 yX9_grade) ∈ G := mG (sgT5 _ (List.mem_of_getElem? (i := 71) rfl)) rfl
theorem kw898 : (Cond.instanceMethod yX9_grade) ∈ G := mG (sgT5 _ (List.mem_of_getElem? (i := 72) rfl)) rfl
theorem kw899 : (Cond.selects RX9 yX9_grade yX9_grade) ∈ G := mG (sgT5 _ (List.mem_of_getElem? (i := 73) rfl)) rfl
theorem kw900 : (Cond.code yX9_grade cX9_grade 4 (some .int)) ∈ G := mG (sgT5 _ (List.mem_of_getElem? (i := 74) rfl)) rfl
theorem kw901 : (Cond.methodLink RX9 240 yX8_gradeIn) ∈ G := mG (sgT5 _ (List.mem_of_getElem? (i := 75) rfl)) rfl
theorem kw902 : (Cond.instanceMethod yX8_gradeIn) ∈ G := mG (sgT5 _ (List.mem_of_getElem? (i := 76) rfl)) rfl
theorem kw903 : (Cond.selects RX8 yX8_gradeIn yX8_gradeIn) ∈ G := mG (sgT5 _ (List.mem_of_getElem? (i := 77) rfl)) rfl
theorem kw904 : (Cond.code yX8_gradeIn cX8_gradeIn 3 (some .int)) ∈ G := mG (sgT5 _ (List.mem_of_getElem? (i := 78) rfl)) rfl
theorem kw905 : (Cond.methodLink RX8 91 yX6_gradeOf) ∈ G := mG (sgT5 _ (List.mem_of_getElem? (i := 79) rfl)) rfl
theorem kw906 : (Cond.methodLink RL 107 yX9_change) ∈ G := mG (sgT5 _ (List.mem_of_getElem? (i := 80) rfl)) rfl
theorem kw907 : (Cond.instanceMethod yX9_change) ∈ G := mG (sgT5 _ (List.mem_of_getElem? (i := 81) rfl)) rfl
theorem kw908 : (Cond.selects RX9 yX9_change yX9_change) ∈ G := mG (sgT5 _ (List.mem_of_getElem? (i := 82) rfl)) rfl
theorem kw909 : (Cond.code yX9_change cX9_change 3 (some .long)) ∈ G := mG (sgT5 _ (List.mem_of_getElem? (i := 83) rfl)) rfl
theorem kw910 : (Cond.methodLink RL 111 yX9_pool) ∈ G := mG (sgT5 _ (List.mem_of_getElem? (i := 84) rfl)) rfl
theorem kw911 : (Cond.instanceMethod yX9_pool) ∈ G := mG (sgT5 _ (List.mem_of_getElem? (i := 85) rfl)) rfl
theorem kw912 : (Cond.selects RX9 yX9_pool yX9_pool) ∈ G := mG (sgT5 _ (List.mem_of_getElem? (i := 86) rfl)) rfl
theorem kw913 : (Cond.code yX9_pool cX9_pool 4 (some .int)) ∈ G := mG (sgT5 _ (List.mem_of_getElem? (i := 87) rfl)) rfl
theorem kw914 : (Cond.methodLink RX9 247 yX8_poolOf) ∈ G := mG (sgT5 _ (List.mem_of_getElem? (i := 88) rfl)) rfl
theorem kw915 : (Cond.instanceMethod yX8_poolOf) ∈ G := mG (sgT5 _ (List.mem_of_getElem? (i := 89) rfl)) rfl
theorem kw916 : (Cond.selects RX8 yX8_poolOf yX8_poolOf) ∈ G := mG (sgT5 _ (List.mem_of_getElem? (i := 90) rfl)) rfl
theorem kw917 : (Cond.code yX8_poolOf cX8_poolOf 8 (some .int)) ∈ G := mG (sgT5 _ (List.mem_of_getElem? (i := 91) rfl)) rfl
theorem kw918 : (Cond.methodLink RX8 116 yX8_bindingRules) ∈ G := mG (sgT5 _ (List.mem_of_getElem? (i := 92) rfl)) rfl
theorem kw919 : (Cond.instanceMethod yX8_bindingRules) ∈ G := mG (sgT5 _ (List.mem_of_getElem? (i := 93) rfl)) rfl
theorem kw920 : (Cond.selects RX8 yX8_bindingRules yX8_bindingRules) ∈ G := mG (sgT5 _ (List.mem_of_getElem? (i := 94) rfl)) rfl
theorem kw921 : (Cond.code yX8_bindingRules cX8_bindingRules 4 (some .int)) ∈ G := mG (sgT5 _ (List.mem_of_getElem? (i := 95) rfl)) rfl
theorem kw922 : (Cond.methodLink RX8 112 yX8_doesBind) ∈ G := mG (sgT5 _ (List.mem_of_getElem? (i := 96) rfl)) rfl
theorem kw923 : (Cond.instanceMethod yX8_doesBind) ∈ G := mG (sgT5 _ (List.mem_of_getElem? (i := 98) rfl)) rfl
theorem kw924 : (Cond.code yX8_doesBind cX8_doesBind 5 (some .boolean)) ∈ G := mG (sgT5 _ (List.mem_of_getElem? (i := 99) rfl)) rfl
theorem kw925 : (Cond.methodLink RL 115 yX9_binds) ∈ G := mG (sgT5 _ (List.mem_of_getElem? (i := 100) rfl)) rfl
theorem kw926 : (Cond.instanceMethod yX9_binds) ∈ G := mG (sgT5 _ (List.mem_of_getElem? (i := 101) rfl)) rfl
theorem kw927 : (Cond.selects RX9 yX9_binds yX9_binds) ∈ G := mG (sgT5 _ (List.mem_of_getElem? (i := 102) rfl)) rfl
theorem kw928 : (Cond.code yX9_binds cX9_binds 2 (some .int)) ∈ G := mG (sgT5 _ (List.mem_of_getElem? (i := 103) rfl)) rfl
theorem kw929 : (Cond.methodLink RX9 250 yX8_bindingRules) ∈ G := mG (sgT5 _ (List.mem_of_getElem? (i := 104) rfl)) rfl
theorem kw930 : (Cond.methodLink RL 119 yX9_worth) ∈ G := mG (sgT5 _ (List.mem_of_getElem? (i := 105) rfl)) rfl
theorem kw931 : (Cond.instanceMethod yX9_worth) ∈ G := mG (sgT5 _ (List.mem_of_getElem? (i := 106) rfl)) rfl
theorem kw932 : (Cond.selects RX9 yX9_worth yX9_worth) ∈ G := mG (sgT5 _ (List.mem_of_getElem? (i := 107) rfl)) rfl
theorem kw933 : (Cond.code yX9_worth cX9_worth 8 (some .long)) ∈ G := mG (sgT5 _ (List.mem_of_getElem? (i := 108) rfl)) rfl
theorem kw934 : (Cond.methodLink RX9 254 yX1_add) ∈ G := mG (sgT5 _ (List.mem_of_getElem? (i := 109) rfl)) rfl
theorem kw935 : (Cond.methodLink RL 123 yX9_dearest) ∈ G := mG (sgT5 _ (List.mem_of_getElem? (i := 110) rfl)) rfl
theorem kw936 : (Cond.instanceMethod yX9_dearest) ∈ G := mG (sgT5 _ (List.mem_of_getElem? (i := 111) rfl)) rfl
theorem kw937 : (Cond.selects RX9 yX9_dearest yX9_dearest) ∈ G := mG (sgT5 _ (List.mem_of_getElem? (i := 112) rfl)) rfl
theorem kw938 : (Cond.code yX9_dearest cX9_dearest 8 (some .int)) ∈ G := mG (sgT5 _ (List.mem_of_getElem? (i := 113) rfl)) rfl
theorem kw939 : (Cond.methodLink RX9 257 yX6_ruleCount) ∈ G := mG (sgT5 _ (List.mem_of_getElem? (i := 114) rfl)) rfl
theorem kw940 : (Cond.methodLink RX9 260 yX1_isBelow) ∈ G := mG (sgT5 _ (List.mem_of_getElem? (i := 115) rfl)) rfl
theorem kw941 : (Cond.methodLink RL 127 yX9_needs) ∈ G := mG (sgT5 _ (List.mem_of_getElem? (i := 116) rfl)) rfl
theorem kw942 : (Cond.instanceMethod yX9_needs) ∈ G := mG (sgT5 _ (List.mem_of_getElem? (i := 117) rfl)) rfl
theorem kw943 : (Cond.selects RX9 yX9_needs yX9_needs) ∈ G := mG (sgT5 _ (List.mem_of_getElem? (i := 118) rfl)) rfl
theorem kw944 : (Cond.code yX9_needs cX9_needs 5 (some .int)) ∈ G := mG (sgT5 _ (List.mem_of_getElem? (i := 119) rfl)) rfl
theorem kw945 : (Cond.methodLink RX9 264 yX9_leastRaw) ∈ G := mG (sgT5 _ (List.mem_of_getElem? (i := 120) rfl)) rfl
theorem kw946 : (Cond.instanceMethod yX9_leastRaw) ∈ G := mG (sgT5 _ (List.mem_of_getElem? (i := 122) rfl)) rfl
theorem kw947 : (Cond.code yX9_leastRaw cX9_leastRaw 7 (some .int)) ∈ G := mG (sgT5 _ (List.mem_of_getElem? (i := 123) rfl)) rfl
theorem kw948 : (Cond.methodLink RL 131 yX9_likely) ∈ G := mG (sgT5 _ (List.mem_of_getElem? (i := 124) rfl)) rfl
theorem kw949 : (Cond.instanceMethod yX9_likely) ∈ G := mG (sgT5 _ (List.mem_of_getElem? (i := 125) rfl)) rfl
theorem kw950 : (Cond.selects RX9 yX9_likely yX9_likely) ∈ G := mG (sgT5 _ (List.mem_of_getElem? (i := 126) rfl)) rfl
theorem kw951 : (Cond.code yX9_likely cX9_likely 6 (some .long)) ∈ G := mG (sgT5 _ (List.mem_of_getElem? (i := 127) rfl)) rfl
theorem kw952 : (Cond.methodLink RX9 267 yX9_workLikely) ∈ G := mG (sgT5 _ (List.mem_of_getElem? (i := 128) rfl)) rfl
theorem kw953 : (Cond.instanceMethod yX9_workLikely) ∈ G := mG (sgT5 _ (List.mem_of_getElem? (i := 130) rfl)) rfl
theorem kw954 : (Cond.code yX9_workLikely cX9_workLikely 10 none) ∈ G := mG (sgT5 _ (List.mem_of_getElem? (i := 131) rfl)) rfl
theorem kw955 : (Cond.methodLink RX9 379 yX8_isMark) ∈ G := mG (sgT5 _ (List.mem_of_getElem? (i := 132) rfl)) rfl
theorem kw956 : (Cond.instanceMethod yX8_isMark) ∈ G := mG (sgT5 _ (List.mem_of_getElem? (i := 133) rfl)) rfl
theorem kw957 : (Cond.selects RX8 yX8_isMark yX8_isMark) ∈ G := mG (sgT5 _ (List.mem_of_getElem? (i := 134) rfl)) rfl
theorem kw958 : (Cond.code yX8_isMark cX8_isMark 2 (some .boolean)) ∈ G := mG (sgT5 _ (List.mem_of_getElem? (i := 135) rfl)) rfl
theorem kw959 : (Cond.methodLink RX9 382 yX9_waysOf) ∈ G := mG (sgT5 _ (List.mem_of_getElem? (i := 136) rfl)) rfl
theorem kw960 : (Cond.static yX9_waysOf) ∈ G := mG (sgT5 _ (List.mem_of_getElem? (i := 137) rfl)) rfl
theorem kw961 : (Cond.code yX9_waysOf cX9_waysOf 6 (some .long)) ∈ G := mG (sgT5 _ (List.mem_of_getElem? (i := 138) rfl)) rfl
theorem kw962 : (Cond.methodLink RX9 388 yX9_hasBit) ∈ G := mG (sgT5 _ (List.mem_of_getElem? (i := 139) rfl)) rfl
theorem kw963 : (Cond.methodLink RX9 386 yX1_make) ∈ G := mG (sgT5 _ (List.mem_of_getElem? (i := 140) rfl)) rfl
theorem kw964 : (Cond.methodLink RL 136 yX9_says) ∈ G := mG (sgT5 _ (List.mem_of_getElem? (i := 141) rfl)) rfl
theorem kw965 : (Cond.instanceMethod yX9_says) ∈ G := mG (sgT5 _ (List.mem_of_getElem? (i := 142) rfl)) rfl
theorem kw966 : (Cond.selects RX9 yX9_says yX9_says) ∈ G := mG (sgT5 _ (List.mem_of_getElem? (i := 143) rfl)) rfl
theorem kw967 : (Cond.code yX9_says cX9_says 3 (some .int)) ∈ G := mG (sgT5 _ (List.mem_of_getElem? (i := 144) rfl)) rfl
theorem kw968 : (Cond.methodLink RX9 271 yX9_sayPaper) ∈ G := mG (sgT5 _ (List.mem_of_getElem? (i := 145) rfl)) rfl
theorem kw969 : (Cond.instanceMethod yX9_sayPaper) ∈ G := mG (sgT5 _ (List.mem_of_getElem? (i := 147) rfl)) rfl
theorem kw970 : (Cond.code yX9_sayPaper cX9_sayPaper 6 none) ∈ G := mG (sgT5 _ (List.mem_of_getElem? (i := 148) rfl)) rfl
theorem kw971 : (Cond.methodLink RX9 391 yJ4_setLength_d00df) ∈ G := mG (sgT5 _ (List.mem_of_getElem? (i := 149) rfl)) rfl
theorem kw972 : (Cond.instanceMethod yJ4_setLength_d00df) ∈ G := mG (sgT5 _ (List.mem_of_getElem? (i := 150) rfl)) rfl
theorem kw973 : (Cond.selects RJ4 yJ4_setLength_d00df yJ4_setLength_d00df) ∈ G := mG (sgT5 _ (List.mem_of_getElem? (i := 151) rfl)) rfl
theorem kw974 : (Cond.code yJ4_setLength_d00df cJ4_setLength_d00df 2 none) ∈ G := mG (sgT5 _ (List.mem_of_getElem? (i := 152) rfl)) rfl
theorem kw975 : (Cond.methodLink RJ4 333 yJ5_setLength_d00df) ∈ G := mG (sgT5 _ (List.mem_of_getElem? (i := 153) rfl)) rfl
theorem kw976 : (Cond.instanceMethod yJ5_setLength_d00df) ∈ G := mG (sgT5 _ (List.mem_of_getElem? (i := 154) rfl)) rfl
theorem kw977 : (Cond.code yJ5_setLength_d00df cJ5_setLength_d00df 2 none) ∈ G := mG (sgT5 _ (List.mem_of_getElem? (i := 155) rfl)) rfl
theorem kw978 : (Cond.methodLink RJ5 100 yJ5_ensureCapacityInternal_d00df) ∈ G := mG (sgT5 _ (List.mem_of_getElem? (i := 156) rfl)) rfl
theorem kw979 : (Cond.instanceMethod yJ5_ensureCapacityInternal_d00df) ∈ G := mG (sgT5 _ (List.mem_of_getElem? (i := 158) rfl)) rfl
theorem kw980 : (Cond.code yJ5_ensureCapacityInternal_d00df cJ5_ensureCapacityInternal_d00df 3 none) ∈ G := mG (sgT5 _ (List.mem_of_getElem? (i := 159) rfl)) rfl
theorem kw981 : (Cond.methodLink RJ5 104 yJ5_newCapacity_0f7a4) ∈ G := mG (sgT5 _ (List.mem_of_getElem? (i := 160) rfl)) rfl
theorem kw982 : (Cond.instanceMethod yJ5_newCapacity_0f7a4) ∈ G := mG (sgT5 _ (List.mem_of_getElem? (i := 162) rfl)) rfl
theorem kw983 : (Cond.code yJ5_newCapacity_0f7a4 cJ5_newCapacity_0f7a4 6 (some .int)) ∈ G := mG (sgT5 _ (List.mem_of_getElem? (i := 163) rfl)) rfl
theorem kw984 : (Cond.methodLink RJ5 114 yJ8_newLength_cabcc) ∈ G := mG (sgT5 _ (List.mem_of_getElem? (i := 164) rfl)) rfl
theorem kw985 : (Cond.static yJ8_newLength_cabcc) ∈ G := mG (sgT5 _ (List.mem_of_getElem? (i := 165) rfl)) rfl
theorem kw986 : (Cond.code yJ8_newLength_cabcc cJ8_newLength_cabcc 4 (some .int)) ∈ G := mG (sgT5 _ (List.mem_of_getElem? (i := 166) rfl)) rfl
theorem kw987 : (Cond.methodLink RJ8 194 yJ9_max_7cf53) ∈ G := mG (sgT5 _ (List.mem_of_getElem? (i := 167) rfl)) rfl
theorem kw988 : (Cond.constant RJ8 200 (2147483639 : Int32)) ∈ G := mG (sgT5 _ (List.mem_of_getElem? (i := 168) rfl)) rfl
theorem kw989 : (Cond.methodLink RJ8 201 yJ8_hugeLength_7cf53) ∈ G := mG (sgT5 _ (List.mem_of_getElem? (i := 169) rfl)) rfl
theorem kw990 : (Cond.static yJ8_hugeLength_7cf53) ∈ G := mG (sgT5 _ (List.mem_of_getElem? (i := 170) rfl)) rfl
theorem kw991 : (Cond.code yJ8_hugeLength_7cf53 cJ8_hugeLength_7cf53 3 (some .int)) ∈ G := mG (sgT5 _ (List.mem_of_getElem? (i := 171) rfl)) rfl
theorem kw992 : (Cond.constant RJ5 39 (2147483647 : Int32)) ∈ G := mG (sgT5 _ (List.mem_of_getElem? (i := 172) rfl)) rfl
theorem kw993 : (Cond.methodLink RJ5 108 yJ7_copyOf_9075b) ∈ G := mG (sgT5 _ (List.mem_of_getElem? (i := 173) rfl)) rfl
theorem kw994 : (Cond.static yJ7_copyOf_9075b) ∈ G := mG (sgT5 _ (List.mem_of_getElem? (i := 174) rfl)) rfl
theorem kw995 : (Cond.code yJ7_copyOf_9075b cJ7_copyOf_9075b 3 (Option.some (Jvm.ClassFile.FieldType.array Jvm.ClassFile.FieldType.byte))) ∈ G := mG (sgT5 _ (List.mem_of_getElem? (i := 175) rfl)) rfl
theorem kw996 : (Cond.methodLink RJ7 310 ({ cls := "[B", name := "clone", desc := "()Ljava/lang/Object;" } : Jvm.MethodName)) ∈ G := mG (sgT5 _ (List.mem_of_getElem? (i := 176) rfl)) rfl
theorem kw997 : (Cond.sameMethod "[B" "java/lang/Object" "clone" "()Ljava/lang/Object;") ∈ G := mG (sgT5 _ (List.mem_of_getElem? (i := 177) rfl)) rfl
theorem kw998 : (Cond.native ({ cls := "java/lang/Object", name := "clone", desc := "()Ljava/lang/Object;" } : Jvm.MethodName)) ∈ G := mG (sgT5 _ (List.mem_of_getElem? (i := 178) rfl)) rfl
theorem kw999 : (Cond.instanceMethod ({ cls := "java/lang/Object", name := "clone", desc := "()Ljava/lang/Object;" } : Jvm.MethodName)) ∈ G := mG (sgT5 _ (List.mem_of_getElem? (i := 179) rfl)) rfl
theorem kw1000 : (Cond.selects "[B" ({ cls := "[B", name := "clone", desc := "()Ljava/lang/Object;" } : Jvm.MethodName) ({ cls := "java/lang/Object", name := "clone", desc := "()Ljava/lang/Object;" } : Jvm.MethodName)) ∈ G := mG (sgT5 _ (List.mem_of_getElem? (i := 180) rfl)) rfl
theorem kw1001 : (Cond.classLink RJ7 311 "[B") ∈ G := mG (sgT5 _ (List.mem_of_getElem? (i := 182) rfl)) rfl
theorem kw1002 : (Cond.methodLink RJ7 304 yJ9_min_7cf53) ∈ G := mG (sgT5 _ (List.mem_of_getElem? (i := 183) rfl)) rfl
theorem kw1003 : (Cond.methodLink RJ7 150 ({ cls := RJ10, name := "arraycopy", desc := "(Ljava/lang/Object;ILjava/lang/Object;II)V" } : Jvm.MethodName)) ∈ G := mG (sgT5 _ (List.mem_of_getElem? (i := 184) rfl)) rfl
theorem kw1004 : (Cond.static ({ cls := RJ10, name := "arraycopy", desc := "(Ljava/lang/Object;ILjava/lang/Object;II)V" } : Jvm.MethodName)) ∈ G := mG (sgT5 _ (List.mem_of_getElem? (i := 185) rfl)) rfl
theorem kw1005 : (Cond.native ({ cls := RJ10, name := "arraycopy", desc := "(Ljava/lang/Object;ILjava/lang/Object;II)V" } : Jvm.MethodName)) ∈ G := mG (sgT5 _ (List.mem_of_getElem? (i := 186) rfl)) rfl
theorem kw1006 : (Cond.methodLink RJ5 83 yJ5_isLatin1_aae02) ∈ G := mG (sgT5 _ (List.mem_of_getElem? (i := 187) rfl)) rfl
theorem kw1007 : (Cond.instanceMethod yJ5_isLatin1_aae02) ∈ G := mG (sgT5 _ (List.mem_of_getElem? (i := 188) rfl)) rfl
theorem kw1008 : (Cond.sameMethod RJ5 RJ5 "isLatin1" "()Z") ∈ G := mG (sgT5 _ (List.mem_of_getElem? (i := 189) rfl)) rfl
theorem kw1009 : (Cond.selects RJ4 yJ5_isLatin1_aae02 yJ5_isLatin1_aae02) ∈ G := mG (sgT5 _ (List.mem_of_getElem? (i := 190) rfl)) rfl
theorem kw1010 : (Cond.code yJ5_isLatin1_aae02 cJ5_isLatin1_aae02 1 (some .boolean)) ∈ G := mG (sgT5 _ (List.mem_of_getElem? (i := 191) rfl)) rfl
theorem kw1011 : (Cond.methodLink RJ5 133 yJ1_fillNull_b72d1) ∈ G := mG (sgT5 _ (List.mem_of_getElem? (i := 192) rfl)) rfl
theorem kw1012 : (Cond.static yJ1_fillNull_b72d1) ∈ G := mG (sgT5 _ (List.mem_of_getElem? (i := 193) rfl)) rfl
theorem kw1013 : (Cond.code yJ1_fillNull_b72d1 cJ1_fillNull_b72d1 3 none) ∈ G := mG (sgT5 _ (List.mem_of_getElem? (i := 194) rfl)) rfl
theorem kw1014 : (Cond.methodLink RJ1 236 yJ7_fill_eb02e) ∈ G := mG (sgT5 _ (List.mem_of_getElem? (i := 195) rfl)) rfl
theorem kw1015 : (Cond.static yJ7_fill_eb02e) ∈ G := mG (sgT5 _ (List.mem_of_getElem? (i := 196) rfl)) rfl
theorem kw1016 : (Cond.code yJ7_fill_eb02e cJ7_fill_eb02e 5 none) ∈ G := mG (sgT5 _ (List.mem_of_getElem? (i := 197) rfl)) rfl
theorem kw1017 : (Cond.methodLink RJ7 13 yJ7_rangeCheck_23922) ∈ G := mG (sgT5 _ (List.mem_of_getElem? (i := 198) rfl)) rfl
theorem kw1018 : (Cond.static yJ7_rangeCheck_23922) ∈ G := mG (sgT5 _ (List.mem_of_getElem? (i := 199) rfl)) rfl
theorem kw1019 : (Cond.code yJ7_rangeCheck_23922 cJ7_rangeCheck_23922 3 none) ∈ G := mG (sgT5 _ (List.mem_of_getElem? (i := 200) rfl)) rfl
theorem kw1020 : (Cond.methodLink RJ5 137 yJ2_fillNull_b72d1) ∈ G := mG (sgT5 _ (List.mem_of_getElem? (i := 201) rfl)) rfl
theorem kw1021 : (Cond.static yJ2_fillNull_b72d1) ∈ G := mG (sgT5 _ (List.mem_of_getElem? (i := 202) rfl)) rfl
theorem kw1022 : (Cond.code yJ2_fillNull_b72d1 cJ2_fillNull_b72d1 3 none) ∈ G := mG (sgT5 _ (List.mem_of_getElem? (i := 203) rfl)) rfl
theorem kw1023 : (Cond.methodLink RJ2 380 yJ7_fill_eb02e) ∈ G := mG (sgT5 _ (List.mem_of_getElem? (i := 204) rfl)) rfl
theorem kw1024 : (Cond.methodLink RX9 394 yJ4_append_bf812) ∈ G := mG (sgT5 _ (List.mem_of_getElem? (i := 205) rfl)) rfl
theorem kw1025 : (Cond.instanceMethod yJ4_append_bf812) ∈ G := mG (sgT5 _ (List.mem_of_getElem? (i := 206) rfl)) rfl
theorem kw1026 : (Cond.selects RJ4 yJ4_append_bf812 yJ4_append_bf812) ∈ G := mG (sgT5 _ (List.mem_of_getElem? (i := 207) rfl)) rfl
theorem kw1027 : (Cond.code yJ4_append_bf812 cJ4_append_bf812 2 (Option.some (Jvm.ClassFile.FieldType.object RJ4))) ∈ G := mG (sgT5 _ (List.mem_of_getElem? (i := 208) rfl)) rfl
theorem kw1028 : (Cond.methodLink RJ4 53 yJ5_append_c97b9) ∈ G := mG (sgT5 _ (List.mem_of_getElem? (i := 209) rfl)) rfl
theorem kw1029 : (Cond.instanceMethod yJ5_append_c97b9) ∈ G := mG (sgT5 _ (List.mem_of_getElem? (i := 210) rfl)) rfl
theorem kw1030 : (Cond.code yJ5_append_c97b9 cJ5_append_c97b9 4 (Option.some (Jvm.ClassFile.FieldType.object RJ5))) ∈ G := mG (sgT5 _ (List.mem_of_getElem? (i := 211) rfl)) rfl
theorem kw1031 : (Cond.methodLink RJ5 245 yJ6_stringSize_0f7a4) ∈ G := mG (sgT5 _ (List.mem_of_getElem? (i := 212) rfl)) rfl
theorem kw1032 : (Cond.static yJ6_stringSize_0f7a4) ∈ G := mG (sgT5 _ (List.mem_of_getElem? (i := 213) rfl)) rfl
theorem kw1033 : (Cond.code yJ6_stringSize_0f7a4 cJ6_stringSize_0f7a4 4 (some .int)) ∈ G := mG (sgT5 _ (List.mem_of_getElem? (i := 214) rfl)) rfl
theorem kw1034 : (Cond.methodLink RJ5 248 yJ6_getChars_ba4f3) ∈ G := mG (sgT5 _ (List.mem_of_getElem? (i := 215) rfl)) rfl
theorem kw1035 : (Cond.static yJ6_getChars_ba4f3) ∈ G := mG (sgT5 _ (List.mem_of_getElem? (i := 216) rfl)) rfl
theorem kw1036 : (Cond.code yJ6_getChars_ba4f3 cJ6_getChars_ba4f3 7 (some .int)) ∈ G := mG (sgT5 _ (List.mem_of_getElem? (i := 217) rfl)) rfl
theorem kw1037 : (Cond.fieldLink RJ6 83 RJ6 "DigitOnes" "[B") ∈ G := mG (sgT5 _ (List.mem_of_getElem? (i := 218) rfl)) rfl
theorem kw1038 : (Cond.fieldLink RJ6 87 RJ6 "DigitTens" "[B") ∈ G := mG (sgT5 _ (List.mem_of_getElem? (i := 220) rfl)) rfl
theorem kw1039 : (Cond.methodLink RJ5 251 yJ2_getChars_46870) ∈ G := mG (sgT5 _ (List.mem_of_getElem? (i := 222) rfl)) rfl
theorem kw1040 : (Cond.static yJ2_getChars_46870) ∈ G := mG (sgT5 _ (List.mem_of_getElem? (i := 223) rfl)) rfl
theorem kw1041 : (Cond.code yJ2_getChars_46870 cJ2_getChars_46870 5 (some .int)) ∈ G := mG (sgT5 _ (List.mem_of_getElem? (i := 224) rfl)) rfl
theorem kw1042 : (Cond.methodLink RJ2 96 yJ2_checkBoundsBeginEnd_d044e) ∈ G := mG (sgT5 _ (List.mem_of_getElem? (i := 225) rfl)) rfl
theorem kw1043 : (Cond.static yJ2_checkBoundsBeginEnd_d044e) ∈ G := mG (sgT5 _ (List.mem_of_getElem? (i := 226) rfl)) rfl
theorem kw1044 : (Cond.code yJ2_checkBoundsBeginEnd_d044e cJ2_checkBoundsBeginEnd_d044e 3 none) ∈ G := mG (sgT5 _ (List.mem_of_getElem? (i := 227) rfl)) rfl
theorem kw1045 : (Cond.methodLink RJ2 241 yJ0_checkBoundsBeginEnd_23922) ∈ G := mG (sgT5 _ (List.mem_of_getElem? (i := 228) rfl)) rfl
theorem kw1046 : (Cond.static yJ0_checkBoundsBeginEnd_23922) ∈ G := mG (sgT5 _ (List.mem_of_getElem? (i := 229) rfl)) rfl
theorem kw1047 : (Cond.code yJ0_checkBoundsBeginEnd_23922 cJ0_checkBoundsBeginEnd_23922 3 none) ∈ G := mG (sgT5 _ (List.mem_of_getElem? (i := 230) rfl)) rfl
theorem kw1048 : (Cond.methodLink RJ0 1062 yJ3_checkFromToIndex_8c36e) ∈ G := mG (sgT5 _ (List.mem_of_getElem? (i := 231) rfl)) rfl
theorem kw1049 : (Cond.static yJ3_checkFromToIndex_8c36e) ∈ G := mG (sgT5 _ (List.mem_of_getElem? (i := 232) rfl)) rfl
theorem kw1050 : (Cond.code yJ3_checkFromToIndex_8c36e cJ3_checkFromToIndex_8c36e 4 (some .int)) ∈ G := mG (sgT5 _ (List.mem_of_getElem? (i := 233) rfl)) rfl
theorem kw1051 : (Cond.methodLink RJ2 393 yJ2_getChars_ba4f3) ∈ G := mG (sgT5 _ (List.mem_of_getElem? (i := 234) rfl)) rfl
theorem kw1052 : (Cond.static yJ2_getChars_ba4f3) ∈ G := mG (sgT5 _ (List.mem_of_getElem? (i := 235) rfl)) rfl
theorem kw1053 : (Cond.code yJ2_getChars_ba4f3 cJ2_getChars_ba4f3 7 (some .int)) ∈ G := mG (sgT5 _ (List.mem_of_getElem? (i := 236) rfl)) rfl
theorem kw1054 : (Cond.fieldLink RJ2 403 RJ6 "DigitOnes" "[B") ∈ G := mG (sgT5 _ (List.mem_of_getElem? (i := 237) rfl)) rfl
theorem kw1055 : (Cond.methodLink RJ2 111 yJ2_putChar_b72d1) ∈ G := mG (sgT5 _ (List.mem_of_getElem? (i := 238) rfl)) rfl
theorem kw1056 : (Cond.static yJ2_putChar_b72d1) ∈ G := mG (sgT5 _ (List.mem_of_getElem? (i := 239) rfl)) rfl
theorem kw1057 : (Cond.code yJ2_putChar_b72d1 cJ2_putChar_b72d1 3 none) ∈ G := mG (sgT6 _ (List.mem_of_getElem? (i := 0) rfl)) rfl
theorem kw1058 : (Cond.fieldLink RJ2 407 RJ6 "DigitTens" "[B") ∈ G := mG (sgT6 _ (List.mem_of_getElem? (i := 1) rfl)) rfl
theorem kw1059 : (Cond.methodLink RX9 398 yJ4_append_cf468) ∈ G := mG (sgT6 _ (List.mem_of_getElem? (i := 2) rfl)) rfl
theorem kw1060 : (Cond.instanceMethod yJ4_append_cf468) ∈ G := mG (sgT6 _ (List.mem_of_getElem? (i := 3) rfl)) rfl
theorem kw1061 : (Cond.selects RJ4 yJ4_append_cf468 yJ4_append_cf468) ∈ G := mG (sgT6 _ (List.mem_of_getElem? (i := 4) rfl)) rfl
theorem kw1062 : (Cond.code yJ4_append_cf468 cJ4_append_cf468 2 (Option.some (Jvm.ClassFile.FieldType.object RJ4))) ∈ G := mG (sgT6 _ (List.mem_of_getElem? (i := 5) rfl)) rfl
theorem kw1063 : (Cond.methodLink RJ4 50 yJ5_append_3fe6f) ∈ G := mG (sgT6 _ (List.mem_of_getElem? (i := 6) rfl)) rfl
theorem kw1064 : (Cond.instanceMethod yJ5_append_3fe6f) ∈ G := mG (sgT6 _ (List.mem_of_getElem? (i := 7) rfl)) rfl
theorem kw1065 : (Cond.code yJ5_append_3fe6f cJ5_append_3fe6f 2 (Option.some (Jvm.ClassFile.FieldType.object RJ5))) ∈ G := mG (sgT6 _ (List.mem_of_getElem? (i := 8) rfl)) rfl
theorem kw1066 : (Cond.methodLink RJ5 191 yJ1_canEncode_fc78d) ∈ G := mG (sgT6 _ (List.mem_of_getElem? (i := 9) rfl)) rfl
theorem kw1067 : (Cond.static yJ1_canEncode_fc78d) ∈ G := mG (sgT6 _ (List.mem_of_getElem? (i := 10) rfl)) rfl
theorem kw1068 : (Cond.code yJ1_canEncode_fc78d cJ1_canEncode_fc78d 1 (some .boolean)) ∈ G := mG (sgT6 _ (List.mem_of_getElem? (i := 11) rfl)) rfl
theorem kw1069 : (Cond.methodLink RJ5 195 yJ5_inflate_da8c8) ∈ G := mG (sgT6 _ (List.mem_of_getElem? (i := 12) rfl)) rfl
theorem kw1070 : (Cond.instanceMethod yJ5_inflate_da8c8) ∈ G := mG (sgT6 _ (List.mem_of_getElem? (i := 14) rfl)) rfl
theorem kw1071 : (Cond.code yJ5_inflate_da8c8 cJ5_inflate_da8c8 2 none) ∈ G := mG (sgT6 _ (List.mem_of_getElem? (i := 15) rfl)) rfl
theorem kw1072 : (Cond.methodLink RJ5 125 yJ1_inflate_0e8fd) ∈ G := mG (sgT6 _ (List.mem_of_getElem? (i := 16) rfl)) rfl
theorem kw1073 : (Cond.static yJ1_inflate_0e8fd) ∈ G := mG (sgT6 _ (List.mem_of_getElem? (i := 17) rfl)) rfl
theorem kw1074 : (Cond.code yJ1_inflate_0e8fd cJ1_inflate_0e8fd 5 none) ∈ G := mG (sgT6 _ (List.mem_of_getElem? (i := 18) rfl)) rfl
theorem kw1075 : (Cond.methodLink RJ1 240 yJ2_inflate_0e8fd) ∈ G := mG (sgT6 _ (List.mem_of_getElem? (i := 19) rfl)) rfl
theorem kw1076 : (Cond.static yJ2_inflate_0e8fd) ∈ G := mG (sgT6 _ (List.mem_of_getElem? (i := 20) rfl)) rfl
theorem kw1077 : (Cond.code yJ2_inflate_0e8fd cJ2_inflate_0e8fd 6 none) ∈ G := mG (sgT6 _ (List.mem_of_getElem? (i := 21) rfl)) rfl
theorem kw1078 : (Cond.methodLink RJ2 173 yJ2_checkBoundsOffCount_d044e) ∈ G := mG (sgT6 _ (List.mem_of_getElem? (i := 22) rfl)) rfl
theorem kw1079 : (Cond.static yJ2_checkBoundsOffCount_d044e) ∈ G := mG (sgT6 _ (List.mem_of_getElem? (i := 23) rfl)) rfl
theorem kw1080 : (Cond.code yJ2_checkBoundsOffCount_d044e cJ2_checkBoundsOffCount_d044e 3 none) ∈ G := mG (sgT6 _ (List.mem_of_getElem? (i := 24) rfl)) rfl
theorem kw1081 : (Cond.methodLink RJ2 419 yJ0_checkBoundsOffCount_cabcc) ∈ G := mG (sgT6 _ (List.mem_of_getElem? (i := 25) rfl)) rfl
theorem kw1082 : (Cond.static yJ0_checkBoundsOffCount_cabcc) ∈ G := mG (sgT6 _ (List.mem_of_getElem? (i := 26) rfl)) rfl
theorem kw1083 : (Cond.code yJ0_checkBoundsOffCount_cabcc cJ0_checkBoundsOffCount_cabcc 3 (some .int)) ∈ G := mG (sgT6 _ (List.mem_of_getElem? (i := 27) rfl)) rfl
theorem kw1084 : (Cond.methodLink RJ0 1065 yJ3_checkFromIndexSize_8c36e) ∈ G := mG (sgT6 _ (List.mem_of_getElem? (i := 28) rfl)) rfl
theorem kw1085 : (Cond.static yJ3_checkFromIndexSize_8c36e) ∈ G := mG (sgT6 _ (List.mem_of_getElem? (i := 29) rfl)) rfl
theorem kw1086 : (Cond.code yJ3_checkFromIndexSize_8c36e cJ3_checkFromIndexSize_8c36e 4 (some .int)) ∈ G := mG (sgT6 _ (List.mem_of_getElem? (i := 30) rfl)) rfl
theorem kw1087 : (Cond.methodLink RJ5 197 yJ2_putCharSB_b72d1) ∈ G := mG (sgT6 _ (List.mem_of_getElem? (i := 31) rfl)) rfl
theorem kw1088 : (Cond.static yJ2_putCharSB_b72d1) ∈ G := mG (sgT6 _ (List.mem_of_getElem? (i := 32) rfl)) rfl
theorem kw1089 : (Cond.code yJ2_putCharSB_b72d1 cJ2_putCharSB_b72d1 3 none) ∈ G := mG (sgT6 _ (List.mem_of_getElem? (i := 33) rfl)) rfl
theorem kw1090 : (Cond.methodLink RX9 401 yJ9_abs_0f7a4) ∈ G := mG (sgT6 _ (List.mem_of_getElem? (i := 34) rfl)) rfl
theorem kw1091 : (Cond.static yJ9_abs_0f7a4) ∈ G := mG (sgT6 _ (List.mem_of_getElem? (i := 35) rfl)) rfl
theorem kw1092 : (Cond.code yJ9_abs_0f7a4 cJ9_abs_0f7a4 1 (some .int)) ∈ G := mG (sgT6 _ (List.mem_of_getElem? (i := 36) rfl)) rfl
theorem kw1093 : (Cond.methodLink RX9 404 yX9_sayOthers) ∈ G := mG (sgT6 _ (List.mem_of_getElem? (i := 37) rfl)) rfl
theorem kw1094 : (Cond.instanceMethod yX9_sayOthers) ∈ G := mG (sgT6 _ (List.mem_of_getElem? (i := 39) rfl)) rfl
theorem kw1095 : (Cond.code yX9_sayOthers cX9_sayOthers 4 none) ∈ G := mG (sgT6 _ (List.mem_of_getElem? (i := 40) rfl)) rfl
theorem kw1096 : (Cond.methodLink RX9 409 yJ4_append_15ec4) ∈ G := mG (sgT6 _ (List.mem_of_getElem? (i := 42) rfl)) rfl
theorem kw1097 : (Cond.instanceMethod yJ4_append_15ec4) ∈ G := mG (sgT6 _ (List.mem_of_getElem? (i := 43) rfl)) rfl
theorem kw1098 : (Cond.selects RJ4 yJ4_append_15ec4 yJ4_append_15ec4) ∈ G := mG (sgT6 _ (List.mem_of_getElem? (i := 44) rfl)) rfl
theorem kw1099 : (Cond.code yJ4_append_15ec4 cJ4_append_15ec4 2 (Option.some (Jvm.ClassFile.FieldType.object RJ4))) ∈ G := mG (sgT6 _ (List.mem_of_getElem? (i := 45) rfl)) rfl
theorem kw1100 : (Cond.methodLink RJ4 29 yJ5_append_cf1ce) ∈ G := mG (sgT6 _ (List.mem_of_getElem? (i := 46) rfl)) rfl
theorem kw1101 : (Cond.instanceMethod yJ5_append_cf1ce) ∈ G := mG (sgT6 _ (List.mem_of_getElem? (i := 47) rfl)) rfl
theorem kw1102 : (Cond.code yJ5_append_cf1ce cJ5_append_cf1ce 3 (Option.some (Jvm.ClassFile.FieldType.object RJ5))) ∈ G := mG (sgT6 _ (List.mem_of_getElem? (i := 48) rfl)) rfl
theorem kw1103 : (Cond.methodLink RJ5 204 yJ5_appendNull_278bc) ∈ G := mG (sgT6 _ (List.mem_of_getElem? (i := 49) rfl)) rfl
theorem kw1104 : (Cond.instanceMethod yJ5_appendNull_278bc) ∈ G := mG (sgT6 _ (List.mem_of_getElem? (i := 51) rfl)) rfl
theorem kw1105 : (Cond.code yJ5_appendNull_278bc cJ5_appendNull_278bc 3 (Option.some (Jvm.ClassFile.FieldType.object RJ5))) ∈ G := mG (sgT6 _ (List.mem_of_getElem? (i := 52) rfl)) rfl
theorem kw1106 : (Cond.methodLink RJ5 226 yJ2_putCharsAt_cd4e5) ∈ G := mG (sgT6 _ (List.mem_of_getElem? (i := 53) rfl)) rfl
theorem kw1107 : (Cond.static yJ2_putCharsAt_cd4e5) ∈ G := mG (sgT6 _ (List.mem_of_getElem? (i := 54) rfl)) rfl
theorem kw1108 : (Cond.code yJ2_putCharsAt_cd4e5 cJ2_putCharsAt_cd4e5 7 (some .int)) ∈ G := mG (sgT6 _ (List.mem_of_getElem? (i := 55) rfl)) rfl
theorem kw1109 : (Cond.methodLink RJ5 32 yJ0_length_8abf5) ∈ G := mG (sgT6 _ (List.mem_of_getElem? (i := 56) rfl)) rfl
theorem kw1110 : (Cond.methodLink RJ5 208 yJ5_putStringAt_47b60) ∈ G := mG (sgT6 _ (List.mem_of_getElem? (i := 57) rfl)) rfl
theorem kw1111 : (Cond.instanceMethod yJ5_putStringAt_47b60) ∈ G := mG (sgT6 _ (List.mem_of_getElem? (i := 59) rfl)) rfl
theorem kw1112 : (Cond.code yJ5_putStringAt_47b60 cJ5_putStringAt_47b60 3 none) ∈ G := mG (sgT6 _ (List.mem_of_getElem? (i := 60) rfl)) rfl
theorem kw1113 : (Cond.methodLink RJ5 397 yJ5_inflateIfNeededFor_a7421) ∈ G := mG (sgT6 _ (List.mem_of_getElem? (i := 61) rfl)) rfl
theorem kw1114 : (Cond.instanceMethod yJ5_inflateIfNeededFor_a7421) ∈ G := mG (sgT6 _ (List.mem_of_getElem? (i := 63) rfl)) rfl
theorem kw1115 : (Cond.code yJ5_inflateIfNeededFor_a7421 cJ5_inflateIfNeededFor_a7421 2 none) ∈ G := mG (sgT6 _ (List.mem_of_getElem? (i := 64) rfl)) rfl
theorem kw1116 : (Cond.methodLink RJ5 40 yJ0_coder_7d493) ∈ G := mG (sgT6 _ (List.mem_of_getElem? (i := 65) rfl)) rfl
theorem kw1117 : (Cond.methodLink RJ5 399 yJ0_getBytes_840e7) ∈ G := mG (sgT6 _ (List.mem_of_getElem? (i := 66) rfl)) rfl
theorem kw1118 : (Cond.instanceMethod yJ0_getBytes_840e7) ∈ G := mG (sgT6 _ (List.mem_of_getElem? (i := 67) rfl)) rfl
theorem kw1119 : (Cond.selects RJ0 yJ0_getBytes_840e7 yJ0_getBytes_840e7) ∈ G := mG (sgT6 _ (List.mem_of_getElem? (i := 68) rfl)) rfl
theorem kw1120 : (Cond.code yJ0_getBytes_840e7 cJ0_getBytes_840e7 4 none) ∈ G := mG (sgT6 _ (List.mem_of_getElem? (i := 69) rfl)) rfl
theorem kw1121 : (Cond.methodLink RJ0 212 ({ cls := RJ10, name := "arraycopy", desc := "(Ljava/lang/Object;ILjava/lang/Object;II)V" } : Jvm.MethodName)) ∈ G := mG (sgT6 _ (List.mem_of_getElem? (i := 70) rfl)) rfl
theorem kw1122 : (Cond.methodLink RJ0 106 yJ1_inflate_0e8fd) ∈ G := mG (sgT6 _ (List.mem_of_getElem? (i := 71) rfl)) rfl
theorem kw1123 : (Cond.methodLink RX9 274 yJ4_length_8abf5) ∈ G := mG (sgT6 _ (List.mem_of_getElem? (i := 73) rfl)) rfl
theorem kw1124 : (Cond.instanceMethod yJ4_length_8abf5) ∈ G := mG (sgT6 _ (List.mem_of_getElem? (i := 74) rfl)) rfl
theorem kw1125 : (Cond.selects RJ4 yJ4_length_8abf5 yJ4_length_8abf5) ∈ G := mG (sgT6 _ (List.mem_of_getElem? (i := 75) rfl)) rfl
theorem kw1126 : (Cond.code yJ4_length_8abf5 cJ4_length_8abf5 1 (some .int)) ∈ G := mG (sgT6 _ (List.mem_of_getElem? (i := 76) rfl)) rfl
theorem kw1127 : (Cond.methodLink RJ4 343 yJ5_length_8abf5) ∈ G := mG (sgT6 _ (List.mem_of_getElem? (i := 77) rfl)) rfl
theorem kw1128 : (Cond.instanceMethod yJ5_length_8abf5) ∈ G := mG (sgT6 _ (List.mem_of_getElem? (i := 78) rfl)) rfl
theorem kw1129 : (Cond.code yJ5_length_8abf5 cJ5_length_8abf5 1 (some .int)) ∈ G := mG (sgT6 _ (List.mem_of_getElem? (i := 79) rfl)) rfl
theorem kw1130 : (Cond.methodLink RX9 277 yJ4_charAt_5068e) ∈ G := mG (sgT6 _ (List.mem_of_getElem? (i := 80) rfl)) rfl
theorem kw1131 : (Cond.instanceMethod yJ4_charAt_5068e) ∈ G := mG (sgT6 _ (List.mem_of_getElem? (i := 81) rfl)) rfl
theorem kw1132 : (Cond.selects RJ4 yJ4_charAt_5068e yJ4_charAt_5068e) ∈ G := mG (sgT6 _ (List.mem_of_getElem? (i := 82) rfl)) rfl
theorem kw1133 : (Cond.code yJ4_charAt_5068e cJ4_charAt_5068e 2 (some .char)) ∈ G := mG (sgT6 _ (List.mem_of_getElem? (i := 83) rfl)) rfl
theorem kw1134 : (Cond.methodLink RJ4 329 yJ5_charAt_5068e) ∈ G := mG (sgT6 _ (List.mem_of_getElem? (i := 84) rfl)) rfl
theorem kw1135 : (Cond.instanceMethod yJ5_charAt_5068e) ∈ G := mG (sgT6 _ (List.mem_of_getElem? (i := 85) rfl)) rfl
theorem kw1136 : (Cond.code yJ5_charAt_5068e cJ5_charAt_5068e 5 (some .char)) ∈ G := mG (sgT6 _ (List.mem_of_getElem? (i := 86) rfl)) rfl
theorem kw1137 : (Cond.methodLink RJ5 138 yJ9_min_7cf53) ∈ G := mG (sgT6 _ (List.mem_of_getElem? (i := 87) rfl)) rfl
theorem kw1138 : (Cond.methodLink RJ5 144 yJ0_checkIndex_df160) ∈ G := mG (sgT6 _ (List.mem_of_getElem? (i := 88) rfl)) rfl
theorem kw1139 : (Cond.methodLink RJ5 148 yJ2_getChar_3b067) ∈ G := mG (sgT6 _ (List.mem_of_getElem? (i := 89) rfl)) rfl
theorem kw1140 : (Cond.methodLink RL 140 yX9_whatIs) ∈ G := mG (sgT6 _ (List.mem_of_getElem? (i := 90) rfl)) rfl
theorem kw1141 : (Cond.instanceMethod yX9_whatIs) ∈ G := mG (sgT6 _ (List.mem_of_getElem? (i := 91) rfl)) rfl
theorem kw1142 : (Cond.selects RX9 yX9_whatIs yX9_whatIs) ∈ G := mG (sgT6 _ (List.mem_of_getElem? (i := 92) rfl)) rfl
theorem kw1143 : (Cond.code yX9_whatIs cX9_whatIs 3 (some .int)) ∈ G := mG (sgT6 _ (List.mem_of_getElem? (i := 93) rfl)) rfl
theorem kw1144 : (Cond.methodLink RX9 281 yX9_kindsAsTold) ∈ G := mG (sgT6 _ (List.mem_of_getElem? (i := 94) rfl)) rfl
theorem kw1145 : (Cond.instanceMethod yX9_kindsAsTold) ∈ G := mG (sgT6 _ (List.mem_of_getElem? (i := 96) rfl)) rfl
theorem kw1146 : (Cond.code yX9_kindsAsTold cX9_kindsAsTold 4 (some .int)) ∈ G := mG (sgT6 _ (List.mem_of_getElem? (i := 97) rfl)) rfl
theorem kw1147 : (Cond.methodLink RX9 414 yX9_isAsTold) ∈ G := mG (sgT6 _ (List.mem_of_getElem? (i := 98) rfl)) rfl
theorem kw1148 : (Cond.instanceMethod yX9_isAsTold) ∈ G := mG (sgT6 _ (List.mem_of_getElem? (i := 100) rfl)) rfl
theorem kw1149 : (Cond.code yX9_isAsTold cX9_isAsTold 4 (some .boolean)) ∈ G := mG (sgT6 _ (List.mem_of_getElem? (i := 101) rfl)) rfl
theorem kw1150 : (Cond.methodLink RX9 417 yX9_markBy) ∈ G := mG (sgT6 _ (List.mem_of_getElem? (i := 102) rfl)) rfl
theorem kw1151 : (Cond.methodLink RX9 284 yX9_figuresAsTold) ∈ G := mG (sgT6 _ (List.mem_of_getElem? (i := 103) rfl)) rfl
theorem kw1152 : (Cond.instanceMethod yX9_figuresAsTold) ∈ G := mG (sgT6 _ (List.mem_of_getElem? (i := 105) rfl)) rfl
theorem kw1153 : (Cond.code yX9_figuresAsTold cX9_figuresAsTold 4 (some .int)) ∈ G := mG (sgT6 _ (List.mem_of_getElem? (i := 106) rfl)) rfl
theorem kw1154 : (Cond.methodLink RL 144 yX9_row) ∈ G := mG (sgT6 _ (List.mem_of_getElem? (i := 107) rfl)) rfl
theorem kw1155 : (Cond.instanceMethod yX9_row) ∈ G := mG (sgT6 _ (List.mem_of_getElem? (i := 108) rfl)) rfl
theorem kw1156 : (Cond.selects RX9 yX9_row yX9_row) ∈ G := mG (sgT6 _ (List.mem_of_getElem? (i := 109) rfl)) rfl
theorem kw1157 : (Cond.code yX9_row cX9_row 2 (some .int)) ∈ G := mG (sgT6 _ (List.mem_of_getElem? (i := 110) rfl)) rfl
theorem kw1158 : (Cond.methodLink RL 148 yX9_clear) ∈ G := mG (sgT6 _ (List.mem_of_getElem? (i := 111) rfl)) rfl
theorem kw1159 : (Cond.instanceMethod yX9_clear) ∈ G := mG (sgT6 _ (List.mem_of_getElem? (i := 112) rfl)) rfl
theorem kw1160 : (Cond.selects RX9 yX9_clear yX9_clear) ∈ G := mG (sgT6 _ (List.mem_of_getElem? (i := 113) rfl)) rfl
theorem kw1161 : (Cond.code yX9_clear cX9_clear 2 (some .int)) ∈ G := mG (sgT6 _ (List.mem_of_getElem? (i := 114) rfl)) rfl
theorem kw1162 : (Cond.methodLink RL 152 yX9_lots) ∈ G := mG (sgT6 _ (List.mem_of_getElem? (i := 115) rfl)) rfl
theorem kw1163 : (Cond.instanceMethod yX9_lots) ∈ G := mG (sgT6 _ (List.mem_of_getElem? (i := 116) rfl)) rfl
theorem kw1164 : (Cond.selects RX9 yX9_lots yX9_lots) ∈ G := mG (sgT6 _ (List.mem_of_getElem? (i := 117) rfl)) rfl
theorem kw1165 : (Cond.code yX9_lots cX9_lots 4 (some .int)) ∈ G := mG (sgT6 _ (List.mem_of_getElem? (i := 118) rfl)) rfl
theorem kw1166 : (Cond.methodLink RX9 295 yX9_drawAll) ∈ G := mG (sgT6 _ (List.mem_of_getElem? (i := 119) rfl)) rfl
theorem kw1167 : (Cond.instanceMethod yX9_drawAll) ∈ G := mG (sgT6 _ (List.mem_of_getElem? (i := 121) rfl)) rfl
theorem kw1168 : (Cond.code yX9_drawAll cX9_drawAll 8 (some .int)) ∈ G := mG (sgT6 _ (List.mem_of_getElem? (i := 122) rfl)) rfl
theorem kw1169 : (Cond.methodLink RX9 339 yX6_paperCount) ∈ G := mG (sgT6 _ (List.mem_of_getElem? (i := 123) rfl)) rfl
theorem kw1170 : (Cond.constant RX9 420 (1664525 : Int32)) ∈ G := mG (sgT6 _ (List.mem_of_getElem? (i := 124) rfl)) rfl
theorem kw1171 : (Cond.constant RX9 421 (1013904223 : Int32)) ∈ G := mG (sgT6 _ (List.mem_of_getElem? (i := 125) rfl)) rfl
theorem kw1172 : (Cond.constant RX9 422 (2147483647 : Int32)) ∈ G := mG (sgT6 _ (List.mem_of_getElem? (i := 126) rfl)) rfl
theorem kw1173 : (Cond.methodLink RX9 423 yX9_pairsIn) ∈ G := mG (sgT6 _ (List.mem_of_getElem? (i := 127) rfl)) rfl
theorem kw1174 : (Cond.instanceMethod yX9_pairsIn) ∈ G := mG (sgT6 _ (List.mem_of_getElem? (i := 129) rfl)) rfl
theorem kw1175 : (Cond.code yX9_pairsIn cX9_pairsIn 2 (some .int)) ∈ G := mG (sgT6 _ (List.mem_of_getElem? (i := 130) rfl)) rfl
theorem kw1176 : (Cond.methodLink RX9 426 yX8_pooledPapers) ∈ G := mG (sgT6 _ (List.mem_of_getElem? (i := 131) rfl)) rfl
theorem kw1177 : (Cond.instanceMethod yX8_pooledPapers) ∈ G := mG (sgT6 _ (List.mem_of_getElem? (i := 132) rfl)) rfl
theorem kw1178 : (Cond.selects RX8 yX8_pooledPapers yX8_pooledPapers) ∈ G := mG (sgT6 _ (List.mem_of_getElem? (i := 133) rfl)) rfl
theorem kw1179 : (Cond.code yX8_pooledPapers cX8_pooledPapers 4 (some .int)) ∈ G := mG (sgT6 _ (List.mem_of_getElem? (i := 134) rfl)) rfl
theorem kw1180 : (Cond.methodLink RX8 120 yJ6_bitCount_0f7a4) ∈ G := mG (sgT6 _ (List.mem_of_getElem? (i := 135) rfl)) rfl
theorem kw1181 : (Cond.methodLink RL 156 yX9_shelf) ∈ G := mG (sgT6 _ (List.mem_of_getElem? (i := 136) rfl)) rfl
theorem kw1182 : (Cond.instanceMethod yX9_shelf) ∈ G := mG (sgT6 _ (List.mem_of_getElem? (i := 137) rfl)) rfl
theorem kw1183 : (Cond.selects RX9 yX9_shelf yX9_shelf) ∈ G := mG (sgT6 _ (List.mem_of_getElem? (i := 138) rfl)) rfl
theorem kw1184 : (Cond.code yX9_shelf cX9_shelf 3 (some .int)) ∈ G := mG (sgT6 _ (List.mem_of_getElem? (i := 139) rfl)) rfl
theorem kw1185 : (Cond.methodLink RX9 298 yX7_has) ∈ G := mG (sgT6 _ (List.mem_of_getElem? (i := 140) rfl)) rfl
theorem kw1186 : (Cond.instanceMethod yX7_has) ∈ G := mG (sgT6 _ (List.mem_of_getElem? (i := 141) rfl)) rfl
theorem kw1187 : (Cond.selects RX7 yX7_has yX7_has) ∈ G := mG (sgT6 _ (List.mem_of_getElem? (i := 142) rfl)) rfl
theorem kw1188 : (Cond.code yX7_has cX7_has 2 (some .boolean)) ∈ G := mG (sgT6 _ (List.mem_of_getElem? (i := 143) rfl)) rfl
theorem kw1189 : (Cond.methodLink RX9 301 yX7_make) ∈ G := mG (sgT6 _ (List.mem_of_getElem? (i := 144) rfl)) rfl
theorem kw1190 : (Cond.instanceMethod yX7_make) ∈ G := mG (sgT6 _ (List.mem_of_getElem? (i := 145) rfl)) rfl
theorem kw1191 : (Cond.selects RX7 yX7_make yX7_make) ∈ G := mG (sgT6 _ (List.mem_of_getElem? (i := 146) rfl)) rfl
theorem kw1192 : (Cond.code yX7_make cX7_make 4 none) ∈ G := mG (sgT6 _ (List.mem_of_getElem? (i := 147) rfl)) rfl
theorem kw1193 : (Cond.methodLink RX7 31 yX2_set) ∈ G := mG (sgT6 _ (List.mem_of_getElem? (i := 148) rfl)) rfl
theorem kw1194 : (Cond.methodLink RX7 35 yX7_set) ∈ G := mG (sgT6 _ (List.mem_of_getElem? (i := 149) rfl)) rfl
theorem kw1195 : (Cond.instanceMethod yX7_set) ∈ G := mG (sgT6 _ (List.mem_of_getElem? (i := 150) rfl)) rfl
theorem kw1196 : (Cond.selects RX7 yX7_set yX7_set) ∈ G := mG (sgT6 _ (List.mem_of_getElem? (i := 151) rfl)) rfl
theorem kw1197 : (Cond.code yX7_set cX7_set 6 none) ∈ G := mG (sgT6 _ (List.mem_of_getElem? (i := 152) rfl)) rfl
theorem kw1198 : (Cond.methodLink RL 162 yX9_put) ∈ G := mG (sgT6 _ (List.mem_of_getElem? (i := 153) rfl)) rfl
theorem kw1199 : (Cond.instanceMethod yX9_put) ∈ G := mG (sgT6 _ (List.mem_of_getElem? (i := 154) rfl)) rfl
theorem kw1200 : (Cond.selects RX9 yX9_put yX9_put) ∈ G := mG (sgT6 _ (List.mem_of_getElem? (i := 155) rfl)) rfl
theorem kw1201 : (Cond.code yX9_put cX9_put 5 (some .int)) ∈ G := mG (sgT6 _ (List.mem_of_getElem? (i := 156) rfl)) rfl
theorem kw1202 : (Cond.methodLink RX9 304 yX7_isMissing) ∈ G := mG (sgT6 _ (List.mem_of_getElem? (i := 157) rfl)) rfl
theorem kw1203 : (Cond.instanceMethod yX7_isMissing) ∈ G := mG (sgT6 _ (List.mem_of_getElem? (i := 158) rfl)) rfl
theorem kw1204 : (Cond.selects RX7 yX7_isMissing yX7_isMissing) ∈ G := mG (sgT6 _ (List.mem_of_getElem? (i := 159) rfl)) rfl
theorem kw1205 : (Cond.code yX7_isMissing cX7_isMissing 2 (some .boolean)) ∈ G := mG (sgT6 _ (List.mem_of_getElem? (i := 160) rfl)) rfl
theorem kw1206 : (Cond.methodLink RX7 27 yX2_get) ∈ G := mG (sgT6 _ (List.mem_of_getElem? (i := 161) rfl)) rfl
theorem kw1207 : (Cond.methodLink RX9 307 yX7_hasPlace) ∈ G := mG (sgT6 _ (List.mem_of_getElem? (i := 162) rfl)) rfl
theorem kw1208 : (Cond.instanceMethod yX7_hasPlace) ∈ G := mG (sgT6 _ (List.mem_of_getElem? (i := 163) rfl)) rfl
theorem kw1209 : (Cond.selects RX7 yX7_hasPlace yX7_hasPlace) ∈ G := mG (sgT6 _ (List.mem_of_getElem? (i := 164) rfl)) rfl
theorem kw1210 : (Cond.code yX7_hasPlace cX7_hasPlace 3 (some .boolean)) ∈ G := mG (sgT6 _ (List.mem_of_getElem? (i := 165) rfl)) rfl
theorem kw1211 : (Cond.methodLink RX9 310 yX7_set) ∈ G := mG (sgT6 _ (List.mem_of_getElem? (i := 166) rfl)) rfl
theorem kw1212 : (Cond.methodLink RL 167 yX9_look) ∈ G := mG (sgT6 _ (List.mem_of_getElem? (i := 167) rfl)) rfl
theorem kw1213 : (Cond.instanceMethod yX9_look) ∈ G := mG (sgT6 _ (List.mem_of_getElem? (i := 168) rfl)) rfl
theorem kw1214 : (Cond.selects RX9 yX9_look yX9_look) ∈ G := mG (sgT6 _ (List.mem_of_getElem? (i := 169) rfl)) rfl
theorem kw1215 : (Cond.code yX9_look cX9_look 3 (some .long)) ∈ G := mG (sgT6 _ (List.mem_of_getElem? (i := 170) rfl)) rfl
theorem kw1216 : (Cond.constantLong RX9 313 (4000000000000000011 : Int64)) ∈ G := mG (sgT6 _ (List.mem_of_getElem? (i := 171) rfl)) rfl
theorem kw1217 : (Cond.constantLong RX9 315 (4000000000000000013 : Int64)) ∈ G := mG (sgT6 _ (List.mem_of_getElem? (i := 172) rfl)) rfl
theorem kw1218 : (Cond.methodLink RX9 317 yX7_get) ∈ G := mG (sgT6 _ (List.mem_of_getElem? (i := 173) rfl)) rfl
theorem kw1219 : (Cond.instanceMethod yX7_get) ∈ G := mG (sgT6 _ (List.mem_of_getElem? (i := 174) rfl)) rfl
theorem kw1220 : (Cond.selects RX7 yX7_get yX7_get) ∈ G := mG (sgT6 _ (List.mem_of_getElem? (i := 175) rfl)) rfl
theorem kw1221 : (Cond.code yX7_get cX7_get 4 (some .long)) ∈ G := mG (sgT6 _ (List.mem_of_getElem? (i := 176) rfl)) rfl
theorem kw1222 : (Cond.methodLink RL 171 yX9_lays) ∈ G := mG (sgT6 _ (List.mem_of_getElem? (i := 177) rfl)) rfl
theorem kw1223 : (Cond.instanceMethod yX9_lays) ∈ G := mG (sgT6 _ (List.mem_of_getElem? (i := 178) rfl)) rfl
theorem kw1224 : (Cond.selects RX9 yX9_lays yX9_lays) ∈ G := mG (sgT6 _ (List.mem_of_getElem? (i := 179) rfl)) rfl
theorem kw1225 : (Cond.code yX9_lays cX9_lays 5 (some .int)) ∈ G := mG (sgT6 _ (List.mem_of_getElem? (i := 180) rfl)) rfl
theorem kw1226 : (Cond.methodLink RX9 320 yX9_whyNoShelf) ∈ G := mG (sgT6 _ (List.mem_of_getElem? (i := 181) rfl)) rfl
theorem kw1227 : (Cond.instanceMethod yX9_whyNoShelf) ∈ G := mG (sgT6 _ (List.mem_of_getElem? (i := 183) rfl)) rfl
theorem kw1228 : (Cond.code yX9_whyNoShelf cX9_whyNoShelf 3 (some .int)) ∈ G := mG (sgT6 _ (List.mem_of_getElem? (i := 184) rfl)) rfl
theorem kw1229 : (Cond.methodLink RX9 323 yX7_layAll) ∈ G := mG (sgT6 _ (List.mem_of_getElem? (i := 185) rfl)) rfl
theorem kw1230 : (Cond.instanceMethod yX7_layAll) ∈ G := mG (sgT6 _ (List.mem_of_getElem? (i := 186) rfl)) rfl
theorem kw1231 : (Cond.selects RX7 yX7_layAll yX7_layAll) ∈ G := mG (sgT6 _ (List.mem_of_getElem? (i := 187) rfl)) rfl
theorem kw1232 : (Cond.code yX7_layAll cX7_layAll 5 (some .int)) ∈ G := mG (sgT6 _ (List.mem_of_getElem? (i := 188) rfl)) rfl
theorem kw1233 : (Cond.methodLink RX7 38 yX8_paperCount) ∈ G := mG (sgT6 _ (List.mem_of_getElem? (i := 189) rfl)) rfl
theorem kw1234 : (Cond.methodLink RX7 44 yX7_hasPlace) ∈ G := mG (sgT6 _ (List.mem_of_getElem? (i := 190) rfl)) rfl
theorem kw1235 : (Cond.methodLink RX7 48 yX8_partOf) ∈ G := mG (sgT6 _ (List.mem_of_getElem? (i := 191) rfl)) rfl
theorem kw1236 : (Cond.methodLink RL 175 yX9_judge) ∈ G := mG (sgT6 _ (List.mem_of_getElem? (i := 192) rfl)) rfl
theorem kw1237 : (Cond.instanceMethod yX9_judge) ∈ G := mG (sgT6 _ (List.mem_of_getElem? (i := 193) rfl)) rfl
theorem kw1238 : (Cond.selects RX9 yX9_judge yX9_judge) ∈ G := mG (sgT6 _ (List.mem_of_getElem? (i := 194) rfl)) rfl
theorem kw1239 : (Cond.code yX9_judge cX9_judge 4 (some .int)) ∈ G := mG (sgT6 _ (List.mem_of_getElem? (i := 195) rfl)) rfl
theorem kw1240 : (Cond.methodLink RX9 327 yX7_judgeAll) ∈ G := mG (sgT6 _ (List.mem_of_getElem? (i := 196) rfl)) rfl
theorem kw1241 : (Cond.instanceMethod yX7_judgeAll) ∈ G := mG (sgT6 _ (List.mem_of_getElem? (i := 197) rfl)) rfl
theorem kw1242 : (Cond.selects RX7 yX7_judgeAll yX7_judgeAll) ∈ G := mG (sgT6 _ (List.mem_of_getElem? (i := 198) rfl)) rfl
theorem kw1243 : (Cond.code yX7_judgeAll cX7_judgeAll 4 (some .int)) ∈ G := mG (sgT6 _ (List.mem_of_getElem? (i := 199) rfl)) rfl
theorem kw1244 : (Cond.methodLink RX7 52 yX7_get) ∈ G := mG (sgT6 _ (List.mem_of_getElem? (i := 200) rfl)) rfl
theorem kw1245 : (Cond.methodLink RL 179 yX9_image) ∈ G := mG (sgT6 _ (List.mem_of_getElem? (i := 201) rfl)) rfl
theorem kw1246 : (Cond.instanceMethod yX9_image) ∈ G := mG (sgT6 _ (List.mem_of_getElem? (i := 202) rfl)) rfl
theorem kw1247 : (Cond.selects RX9 yX9_image yX9_image) ∈ G := mG (sgT6 _ (List.mem_of_getElem? (i := 203) rfl)) rfl
theorem kw1248 : (Cond.code yX9_image cX9_image 1 (some .int)) ∈ G := mG (sgT6 _ (List.mem_of_getElem? (i := 204) rfl)) rfl
theorem kw1249 : (Cond.methodLink RL 183 yX9_on) ∈ G := mG (sgT6 _ (List.mem_of_getElem? (i := 205) rfl)) rfl
theorem kw1250 : (Cond.instanceMethod yX9_on) ∈ G := mG (sgT6 _ (List.mem_of_getElem? (i := 206) rfl)) rfl
theorem kw1251 : (Cond.selects RX9 yX9_on yX9_on) ∈ G := mG (sgT6 _ (List.mem_of_getElem? (i := 207) rfl)) rfl
theorem kw1252 : (Cond.code yX9_on cX9_on 1 (some .int)) ∈ G := mG (sgT6 _ (List.mem_of_getElem? (i := 208) rfl)) rfl
theorem kw1253 : (Cond.methodLink RL 187 yX9_count) ∈ G := mG (sgT6 _ (List.mem_of_getElem? (i := 209) rfl)) rfl
theorem kw1254 : (Cond.instanceMethod yX9_count) ∈ G := mG (sgT6 _ (List.mem_of_getElem? (i := 210) rfl)) rfl
theorem kw1255 : (Cond.selects RX9 yX9_count yX9_count) ∈ G := mG (sgT6 _ (List.mem_of_getElem? (i := 211) rfl)) rfl
theorem kw1256 : (Cond.code yX9_count cX9_count 2 (some .int)) ∈ G := mG (sgT6 _ (List.mem_of_getElem? (i := 212) rfl)) rfl
theorem kw1257 : (Cond.methodLink RX9 342 yX6_limitCount) ∈ G := mG (sgT6 _ (List.mem_of_getElem? (i := 213) rfl)) rfl
theorem kw1258 : (Cond.instanceMethod yX6_limitCount) ∈ G := mG (sgT6 _ (List.mem_of_getElem? (i := 214) rfl)) rfl
theorem kw1259 : (Cond.selects RX6 yX6_limitCount yX6_limitCount) ∈ G := mG (sgT6 _ (List.mem_of_getElem? (i := 215) rfl)) rfl
theorem kw1260 : (Cond.code yX6_limitCount cX6_limitCount 1 (some .int)) ∈ G := mG (sgT6 _ (List.mem_of_getElem? (i := 216) rfl)) rfl
theorem kw1261 : (Cond.methodLink RX9 345 yX6_tiesNow) ∈ G := mG (sgT6 _ (List.mem_of_getElem? (i := 217) rfl)) rfl
theorem kw1262 : (Cond.methodLink RX9 348 yX3_size) ∈ G := mG (sgT6 _ (List.mem_of_getElem? (i := 218) rfl)) rfl
theorem kw1263 : (Cond.instanceMethod yX3_size) ∈ G := mG (sgT6 _ (List.mem_of_getElem? (i := 219) rfl)) rfl
theorem kw1264 : (Cond.selects RX3 yX3_size yX3_size) ∈ G := mG (sgT6 _ (List.mem_of_getElem? (i := 220) rfl)) rfl
theorem kw1265 : (Cond.code yX3_size cX3_size 1 (some .int)) ∈ G := mG (sgT6 _ (List.mem_of_getElem? (i := 221) rfl)) rfl
theorem kw1266 : (Cond.methodLink RX9 351 yX6_brokenRules) ∈ G := mG (sgT6 _ (List.mem_of_getElem? (i := 222) rfl)) rfl
theorem kw1267 : (Cond.instanceMethod yX6_brokenRules) ∈ G := mG (sgT6 _ (List.mem_of_getElem? (i := 223) rfl)) rfl
theorem kw1268 : (Cond.selects RX6 yX6_brokenRules yX6_brokenRules) ∈ G := mG (sgT6 _ (List.mem_of_getElem? (i := 224) rfl)) rfl
theorem kw1269 : (Cond.code yX6_brokenRules cX6_brokenRules 3 (some .int)) ∈ G := mG (sgT6 _ (List.mem_of_getElem? (i := 225) rfl)) rfl
theorem kw1270 : (Cond.methodLink RX6 80 yX6_isBroken) ∈ G := mG (sgT6 _ (List.mem_of_getElem? (i := 226) rfl)) rfl
theorem kw1271 : (Cond.classLink RL 10 RX10) ∈ G := mG (sgT6 _ (List.mem_of_getElem? (i := 227) rfl)) rfl
theorem kw1272 : (Cond.instantiable RX10 36) ∈ G := mG (sgT6 _ (List.mem_of_getElem? (i := 228) rfl)) rfl
theorem kw1273 : (Cond.methodLink RL 12 yX10_init) ∈ G := mG (sgT6 _ (List.mem_of_getElem? (i := 229) rfl)) rfl
theorem kw1274 : (Cond.instanceMethod yX10_init) ∈ G := mG (sgT6 _ (List.mem_of_getElem? (i := 230) rfl)) rfl
theorem kw1275 : (Cond.code yX10_init cX10_init 1 none) ∈ G := mG (sgT6 _ (List.mem_of_getElem? (i := 231) rfl)) rfl
theorem kw1276 : (Cond.methodLink RX10 1 ({ cls := "java/lang/Object", name := "<init>", desc := "()V" } : Jvm.MethodName)) ∈ G := mG (sgT6 _ (List.mem_of_getElem? (i := 232) rfl)) rfl
theorem kw1277 : (Cond.fieldLink RX10 80 RX10 "papers" "I") ∈ G := mG (sgT6 _ (List.mem_of_getElem? (i := 233) rfl)) rfl
theorem kw1278 : (Cond.fieldLink RX10 7 RX10 "raw" "[I") ∈ G := mG (sgT6 _ (List.mem_of_getElem? (i := 234) rfl)) rfl
theorem kw1279 : (Cond.fieldLink RX10 13 RX10 "kind" "[I") ∈ G := mG (sgT6 _ (List.mem_of_getElem? (i := 235) rfl)) rfl
theorem kw1280 : (Cond.fieldLink RX10 16 RX10 "figure" "[I") ∈ G := mG (sgT6 _ (List.mem_of_getElem? (i := 236) rfl)) rfl
theorem kw1281 : (Cond.fieldLink RX10 19 RX10 "heavy" "[I") ∈ G := mG (sgT6 _ (List.mem_of_getElem? (i := 237) rfl)) rfl
theorem kw1282 : (Cond.fieldLink RX10 22 RX10 "place" "[I") ∈ G := mG (sgT6 _ (List.mem_of_getElem? (i := 238) rfl)) rfl
theorem kw1283 : (Cond.fieldLink RX10 88 RX10 "rules" "I") ∈ G := mG (sgT6 _ (List.mem_of_getElem? (i := 239) rfl)) rfl
theorem kw1284 : (Cond.fieldLink RX10 25 RX10 "lower" "[I") ∈ G := mG (sgT7 _ (List.mem_of_getElem? (i := 0) rfl)) rfl
theorem kw1285 : (Cond.fieldLink RX10 28 RX10 "upper" "[I") ∈ G := mG (sgT7 _ (List.mem_of_getElem? (i := 1) rfl)) rfl
theorem kw1286 : (Cond.fieldLink RX10 119 RX10 "limits" "I") ∈ G := mG (sgT7 _ (List.mem_of_getElem? (i := 2) rfl)) rfl
theorem kw1287 : (Cond.fieldLink RX10 31 RX10 "limit" "[I") ∈ G := mG (sgT7 _ (List.mem_of_getElem? (i := 3) rfl)) rfl
theorem kw1288 : (Cond.fieldLink RX10 148 RX10 "ties" "I") ∈ G := mG (sgT7 _ (List.mem_of_getElem? (i := 4) rfl)) rfl
theorem kw1289 : (Cond.fieldLink RX10 34 RX10 "letter" "[I") ∈ G := mG (sgT7 _ (List.mem_of_getElem? (i := 5) rfl)) rfl
theorem kw1290 : (Cond.fieldLink RX10 369 RX10 "letters" "I") ∈ G := mG (sgT7 _ (List.mem_of_getElem? (i := 6) rfl)) rfl
theorem kw1291 : (Cond.fieldLink RX10 37 RX10 "told" "[I") ∈ G := mG (sgT7 _ (List.mem_of_getElem? (i := 7) rfl)) rfl
theorem kw1292 : (Cond.fieldLink RX10 337 RX10 "tolds" "I") ∈ G := mG (sgT7 _ (List.mem_of_getElem? (i := 8) rfl)) rfl
theorem kw1293 : (Cond.fieldLink RX10 40 RX10 "places" "[I") ∈ G := mG (sgT7 _ (List.mem_of_getElem? (i := 9) rfl)) rfl
theorem kw1294 : (Cond.fieldLink RX10 43 RX10 "cell" "[J") ∈ G := mG (sgT7 _ (List.mem_of_getElem? (i := 10) rfl)) rfl
theorem kw1295 : (Cond.fieldLink RX10 47 RX10 "refusals" "[I") ∈ G := mG (sgT7 _ (List.mem_of_getElem? (i := 11) rfl)) rfl
theorem kw1296 : (Cond.fieldLink RX10 50 RX10 "imaged" "[I") ∈ G := mG (sgT7 _ (List.mem_of_getElem? (i := 12) rfl)) rfl
theorem kw1297 : (Cond.fieldLink RX10 434 RX10 "hasImage" "Z") ∈ G := mG (sgT7 _ (List.mem_of_getElem? (i := 13) rfl)) rfl
theorem kw1298 : (Cond.fieldLink RX10 53 RX10 "before" "[I") ∈ G := mG (sgT7 _ (List.mem_of_getElem? (i := 14) rfl)) rfl
theorem kw1299 : (Cond.fieldLink RX10 95 RX10 "up" "J") ∈ G := mG (sgT7 _ (List.mem_of_getElem? (i := 15) rfl)) rfl
theorem kw1300 : (Cond.fieldLink RX10 99 RX10 "down" "J") ∈ G := mG (sgT7 _ (List.mem_of_getElem? (i := 16) rfl)) rfl
theorem kw1301 : (Cond.fieldLink RX10 56 RX10 "beneath" "[I") ∈ G := mG (sgT7 _ (List.mem_of_getElem? (i := 17) rfl)) rfl
theorem kw1302 : (Cond.fieldLink RX10 190 RX10 "numberUp" "I") ∈ G := mG (sgT7 _ (List.mem_of_getElem? (i := 18) rfl)) rfl
theorem kw1303 : (Cond.fieldLink RX10 193 RX10 "numberDown" "I") ∈ G := mG (sgT7 _ (List.mem_of_getElem? (i := 19) rfl)) rfl
theorem kw1304 : (Cond.fieldLink RX10 59 RX10 "block" "[I") ∈ G := mG (sgT7 _ (List.mem_of_getElem? (i := 20) rfl)) rfl
theorem kw1305 : (Cond.fieldLink RX10 196 RX10 "blocks" "I") ∈ G := mG (sgT7 _ (List.mem_of_getElem? (i := 21) rfl)) rfl
theorem kw1306 : (Cond.fieldLink RX10 211 RX10 "merged" "I") ∈ G := mG (sgT7 _ (List.mem_of_getElem? (i := 22) rfl)) rfl
theorem kw1307 : (Cond.fieldLink RX10 62 RX10 "valueUp" "[I") ∈ G := mG (sgT7 _ (List.mem_of_getElem? (i := 23) rfl)) rfl
theorem kw1308 : (Cond.fieldLink RX10 65 RX10 "valueDown" "[I") ∈ G := mG (sgT7 _ (List.mem_of_getElem? (i := 24) rfl)) rfl
theorem kw1309 : (Cond.fieldLink RX10 68 RX10 "said" "[I") ∈ G := mG (sgT7 _ (List.mem_of_getElem? (i := 25) rfl)) rfl
theorem kw1310 : (Cond.fieldLink RX10 302 RX10 "saids" "I") ∈ G := mG (sgT7 _ (List.mem_of_getElem? (i := 26) rfl)) rfl
theorem kw1311 : (Cond.fieldLink RX10 383 RX10 "at" "I") ∈ G := mG (sgT7 _ (List.mem_of_getElem? (i := 27) rfl)) rfl
theorem kw1312 : (Cond.fieldLink RX10 71 RX10 "number" "[I") ∈ G := mG (sgT7 _ (List.mem_of_getElem? (i := 28) rfl)) rfl
theorem kw1313 : (Cond.lays RX10 RX10 "papers" "I") ∈ G := mG (sgT7 _ (List.mem_of_getElem? (i := 29) rfl)) rfl
theorem kw1314 : (Cond.laysFinal RX10 RX10 "raw" "[I") ∈ G := mG (sgT7 _ (List.mem_of_getElem? (i := 31) rfl)) rfl
theorem kw1315 : (Cond.laysFinal RX10 RX10 "kind" "[I") ∈ G := mG (sgT7 _ (List.mem_of_getElem? (i := 33) rfl)) rfl
theorem kw1316 : (Cond.laysFinal RX10 RX10 "figure" "[I") ∈ G := mG (sgT7 _ (List.mem_of_getElem? (i := 35) rfl)) rfl
theorem kw1317 : (Cond.laysFinal RX10 RX10 "heavy" "[I") ∈ G := mG (sgT7 _ (List.mem_of_getElem? (i := 37) rfl)) rfl
theorem kw1318 : (Cond.laysFinal RX10 RX10 "place" "[I") ∈ G := mG (sgT7 _ (List.mem_of_getElem? (i := 39) rfl)) rfl
theorem kw1319 : (Cond.lays RX10 RX10 "rules" "I") ∈ G := mG (sgT7 _ (List.mem_of_getElem? (i := 41) rfl)) rfl
theorem kw1320 : (Cond.laysFinal RX10 RX10 "lower" "[I") ∈ G := mG (sgT7 _ (List.mem_of_getElem? (i := 43) rfl)) rfl
theorem kw1321 : (Cond.laysFinal RX10 RX10 "upper" "[I") ∈ G := mG (sgT7 _ (List.mem_of_getElem? (i := 45) rfl)) rfl
theorem kw1322 : (Cond.lays RX10 RX10 "limits" "I") ∈ G := mG (sgT7 _ (List.mem_of_getElem? (i := 47) rfl)) rfl
theorem kw1323 : (Cond.laysFinal RX10 RX10 "limit" "[I") ∈ G := mG (sgT7 _ (List.mem_of_getElem? (i := 49) rfl)) rfl
theorem kw1324 : (Cond.lays RX10 RX10 "ties" "I") ∈ G := mG (sgT7 _ (List.mem_of_getElem? (i := 51) rfl)) rfl
theorem kw1325 : (Cond.laysFinal RX10 RX10 "letter" "[I") ∈ G := mG (sgT7 _ (List.mem_of_getElem? (i := 53) rfl)) rfl
theorem kw1326 : (Cond.lays RX10 RX10 "letters" "I") ∈ G := mG (sgT7 _ (List.mem_of_getElem? (i := 55) rfl)) rfl
theorem kw1327 : (Cond.laysFinal RX10 RX10 "told" "[I") ∈ G := mG (sgT7 _ (List.mem_of_getElem? (i := 57) rfl)) rfl
theorem kw1328 : (Cond.lays RX10 RX10 "tolds" "I") ∈ G := mG (sgT7 _ (List.mem_of_getElem? (i := 59) rfl)) rfl
theorem kw1329 : (Cond.laysFinal RX10 RX10 "places" "[I") ∈ G := mG (sgT7 _ (List.mem_of_getElem? (i := 61) rfl)) rfl
theorem kw1330 : (Cond.laysFinal RX10 RX10 "cell" "[J") ∈ G := mG (sgT7 _ (List.mem_of_getElem? (i := 63) rfl)) rfl
theorem kw1331 : (Cond.laysFinal RX10 RX10 "refusals" "[I") ∈ G := mG (sgT7 _ (List.mem_of_getElem? (i := 65) rfl)) rfl
theorem kw1332 : (Cond.laysFinal RX10 RX10 "imaged" "[I") ∈ G := mG (sgT7 _ (List.mem_of_getElem? (i := 67) rfl)) rfl
theorem kw1333 : (Cond.lays RX10 RX10 "hasImage" "Z") ∈ G := mG (sgT7 _ (List.mem_of_getElem? (i := 69) rfl)) rfl
theorem kw1334 : (Cond.laysFinal RX10 RX10 "before" "[I") ∈ G := mG (sgT7 _ (List.mem_of_getElem? (i := 71) rfl)) rfl
theorem kw1335 : (Cond.lays RX10 RX10 "up" "J") ∈ G := mG (sgT7 _ (List.mem_of_getElem? (i := 73) rfl)) rfl
theorem kw1336 : (Cond.lays RX10 RX10 "down" "J") ∈ G := mG (sgT7 _ (List.mem_of_getElem? (i := 75) rfl)) rfl
theorem kw1337 : (Cond.laysFinal RX10 RX10 "beneath" "[I") ∈ G := mG (sgT7 _ (List.mem_of_getElem? (i := 77) rfl)) rfl
theorem kw1338 : (Cond.lays RX10 RX10 "numberUp" "I") ∈ G := mG (sgT7 _ (List.mem_of_getElem? (i := 79) rfl)) rfl
theorem kw1339 : (Cond.lays RX10 RX10 "numberDown" "I") ∈ G := mG (sgT7 _ (List.mem_of_getElem? (i := 81) rfl)) rfl
theorem kw1340 : (Cond.laysFinal RX10 RX10 "block" "[I") ∈ G := mG (sgT7 _ (List.mem_of_getElem? (i := 83) rfl)) rfl
theorem kw1341 : (Cond.lays RX10 RX10 "blocks" "I") ∈ G := mG (sgT7 _ (List.mem_of_getElem? (i := 85) rfl)) rfl
theorem kw1342 : (Cond.lays RX10 RX10 "merged" "I") ∈ G := mG (sgT7 _ (List.mem_of_getElem? (i := 87) rfl)) rfl
theorem kw1343 : (Cond.laysFinal RX10 RX10 "valueUp" "[I") ∈ G := mG (sgT7 _ (List.mem_of_getElem? (i := 89) rfl)) rfl
theorem kw1344 : (Cond.laysFinal RX10 RX10 "valueDown" "[I") ∈ G := mG (sgT7 _ (List.mem_of_getElem? (i := 91) rfl)) rfl
theorem kw1345 : (Cond.laysFinal RX10 RX10 "said" "[I") ∈ G := mG (sgT7 _ (List.mem_of_getElem? (i := 93) rfl)) rfl
theorem kw1346 : (Cond.lays RX10 RX10 "saids" "I") ∈ G := mG (sgT7 _ (List.mem_of_getElem? (i := 95) rfl)) rfl
theorem kw1347 : (Cond.lays RX10 RX10 "at" "I") ∈ G := mG (sgT7 _ (List.mem_of_getElem? (i := 97) rfl)) rfl
theorem kw1348 : (Cond.laysFinal RX10 RX10 "number" "[I") ∈ G := mG (sgT7 _ (List.mem_of_getElem? (i := 99) rfl)) rfl
theorem kw1349 : (Cond.superclass RX10 "java/lang/Object") ∈ G := mG (sgT7 _ (List.mem_of_getElem? (i := 101) rfl)) rfl
theorem kw1350 : (Cond.methodLink RL 26 yX10_paper) ∈ G := mG (sgT7 _ (List.mem_of_getElem? (i := 102) rfl)) rfl
theorem kw1351 : (Cond.instanceMethod yX10_paper) ∈ G := mG (sgT7 _ (List.mem_of_getElem? (i := 103) rfl)) rfl
theorem kw1352 : (Cond.selects RX10 yX10_paper yX10_paper) ∈ G := mG (sgT7 _ (List.mem_of_getElem? (i := 104) rfl)) rfl
theorem kw1353 : (Cond.code yX10_paper cX10_paper 2 (some .int)) ∈ G := mG (sgT7 _ (List.mem_of_getElem? (i := 105) rfl)) rfl
theorem kw1354 : (Cond.methodLink RX10 76 yX10_no) ∈ G := mG (sgT7 _ (List.mem_of_getElem? (i := 106) rfl)) rfl
theorem kw1355 : (Cond.instanceMethod yX10_no) ∈ G := mG (sgT7 _ (List.mem_of_getElem? (i := 108) rfl)) rfl
theorem kw1356 : (Cond.code yX10_no cX10_no 2 (some .int)) ∈ G := mG (sgT7 _ (List.mem_of_getElem? (i := 109) rfl)) rfl
theorem kw1357 : (Cond.methodLink RL 31 yX10_kind) ∈ G := mG (sgT7 _ (List.mem_of_getElem? (i := 110) rfl)) rfl
theorem kw1358 : (Cond.instanceMethod yX10_kind) ∈ G := mG (sgT7 _ (List.mem_of_getElem? (i := 111) rfl)) rfl
theorem kw1359 : (Cond.selects RX10 yX10_kind yX10_kind) ∈ G := mG (sgT7 _ (List.mem_of_getElem? (i := 112) rfl)) rfl
theorem kw1360 : (Cond.code yX10_kind cX10_kind 5 (some .int)) ∈ G := mG (sgT7 _ (List.mem_of_getElem? (i := 113) rfl)) rfl
theorem kw1361 : (Cond.methodLink RX10 122 yX10_isPaper) ∈ G := mG (sgT7 _ (List.mem_of_getElem? (i := 114) rfl)) rfl
theorem kw1362 : (Cond.instanceMethod yX10_isPaper) ∈ G := mG (sgT7 _ (List.mem_of_getElem? (i := 116) rfl)) rfl
theorem kw1363 : (Cond.code yX10_isPaper cX10_isPaper 2 (some .boolean)) ∈ G := mG (sgT7 _ (List.mem_of_getElem? (i := 117) rfl)) rfl
theorem kw1364 : (Cond.methodLink RX10 84 yX10_in) ∈ G := mG (sgT7 _ (List.mem_of_getElem? (i := 118) rfl)) rfl
theorem kw1365 : (Cond.static yX10_in) ∈ G := mG (sgT7 _ (List.mem_of_getElem? (i := 119) rfl)) rfl
theorem kw1366 : (Cond.code yX10_in cX10_in 3 (some .boolean)) ∈ G := mG (sgT7 _ (List.mem_of_getElem? (i := 120) rfl)) rfl
theorem kw1367 : (Cond.methodLink RL 36 yX10_raw) ∈ G := mG (sgT7 _ (List.mem_of_getElem? (i := 121) rfl)) rfl
theorem kw1368 : (Cond.instanceMethod yX10_raw) ∈ G := mG (sgT7 _ (List.mem_of_getElem? (i := 122) rfl)) rfl
theorem kw1369 : (Cond.selects RX10 yX10_raw yX10_raw) ∈ G := mG (sgT7 _ (List.mem_of_getElem? (i := 123) rfl)) rfl
theorem kw1370 : (Cond.code yX10_raw cX10_raw 3 (some .int)) ∈ G := mG (sgT7 _ (List.mem_of_getElem? (i := 124) rfl)) rfl
theorem kw1371 : (Cond.methodLink RX10 126 yX10_becomes) ∈ G := mG (sgT7 _ (List.mem_of_getElem? (i := 125) rfl)) rfl
theorem kw1372 : (Cond.instanceMethod yX10_becomes) ∈ G := mG (sgT7 _ (List.mem_of_getElem? (i := 127) rfl)) rfl
theorem kw1373 : (Cond.code yX10_becomes cX10_becomes 7 (some .int)) ∈ G := mG (sgT7 _ (List.mem_of_getElem? (i := 128) rfl)) rfl
theorem kw1374 : (Cond.methodLink RL 40 yX10_heavy) ∈ G := mG (sgT7 _ (List.mem_of_getElem? (i := 129) rfl)) rfl
theorem kw1375 : (Cond.instanceMethod yX10_heavy) ∈ G := mG (sgT7 _ (List.mem_of_getElem? (i := 130) rfl)) rfl
theorem kw1376 : (Cond.selects RX10 yX10_heavy yX10_heavy) ∈ G := mG (sgT7 _ (List.mem_of_getElem? (i := 131) rfl)) rfl
theorem kw1377 : (Cond.code yX10_heavy cX10_heavy 3 (some .int)) ∈ G := mG (sgT7 _ (List.mem_of_getElem? (i := 132) rfl)) rfl
theorem kw1378 : (Cond.methodLink RL 44 yX10_place) ∈ G := mG (sgT7 _ (List.mem_of_getElem? (i := 133) rfl)) rfl
theorem kw1379 : (Cond.instanceMethod yX10_place) ∈ G := mG (sgT7 _ (List.mem_of_getElem? (i := 134) rfl)) rfl
theorem kw1380 : (Cond.selects RX10 yX10_place yX10_place) ∈ G := mG (sgT7 _ (List.mem_of_getElem? (i := 135) rfl)) rfl
theorem kw1381 : (Cond.code yX10_place cX10_place 3 (some .int)) ∈ G := mG (sgT7 _ (List.mem_of_getElem? (i := 136) rfl)) rfl
theorem kw1382 : (Cond.methodLink RL 48 yX10_rule) ∈ G := mG (sgT7 _ (List.mem_of_getElem? (i := 137) rfl)) rfl
theorem kw1383 : (Cond.instanceMethod yX10_rule) ∈ G := mG (sgT7 _ (List.mem_of_getElem? (i := 138) rfl)) rfl
theorem kw1384 : (Cond.selects RX10 yX10_rule yX10_rule) ∈ G := mG (sgT7 _ (List.mem_of_getElem? (i := 139) rfl)) rfl
theorem kw1385 : (Cond.code yX10_rule cX10_rule 4 (some .int)) ∈ G := mG (sgT7 _ (List.mem_of_getElem? (i := 140) rfl)) rfl
theorem kw1386 : (Cond.methodLink RX10 142 yX10_isUnder) ∈ G := mG (sgT7 _ (List.mem_of_getElem? (i := 141) rfl)) rfl
theorem kw1387 : (Cond.instanceMethod yX10_isUnder) ∈ G := mG (sgT7 _ (List.mem_of_getElem? (i := 143) rfl)) rfl
theorem kw1388 : (Cond.code yX10_isUnder cX10_isUnder 3 (some .boolean)) ∈ G := mG (sgT7 _ (List.mem_of_getElem? (i := 144) rfl)) rfl
theorem kw1389 : (Cond.methodLink RX10 134 yX10_allRules) ∈ G := mG (sgT7 _ (List.mem_of_getElem? (i := 145) rfl)) rfl
theorem kw1390 : (Cond.instanceMethod yX10_allRules) ∈ G := mG (sgT7 _ (List.mem_of_getElem? (i := 147) rfl)) rfl
theorem kw1391 : (Cond.code yX10_allRules cX10_allRules 1 (some .int)) ∈ G := mG (sgT7 _ (List.mem_of_getElem? (i := 148) rfl)) rfl
theorem kw1392 : (Cond.methodLink RX10 138 yX10_reach) ∈ G := mG (sgT7 _ (List.mem_of_getElem? (i := 149) rfl)) rfl
theorem kw1393 : (Cond.instanceMethod yX10_reach) ∈ G := mG (sgT7 _ (List.mem_of_getElem? (i := 151) rfl)) rfl
theorem kw1394 : (Cond.code yX10_reach cX10_reach 4 none) ∈ G := mG (sgT7 _ (List.mem_of_getElem? (i := 152) rfl)) rfl
theorem kw1395 : (Cond.methodLink RX10 130 yX10_has) ∈ G := mG (sgT7 _ (List.mem_of_getElem? (i := 153) rfl)) rfl
theorem kw1396 : (Cond.static yX10_has) ∈ G := mG (sgT7 _ (List.mem_of_getElem? (i := 154) rfl)) rfl
theorem kw1397 : (Cond.code yX10_has cX10_has 2 (some .boolean)) ∈ G := mG (sgT7 _ (List.mem_of_getElem? (i := 155) rfl)) rfl
theorem kw1398 : (Cond.methodLink RL 52 yX10_free) ∈ G := mG (sgT7 _ (List.mem_of_getElem? (i := 156) rfl)) rfl
theorem kw1399 : (Cond.instanceMethod yX10_free) ∈ G := mG (sgT7 _ (List.mem_of_getElem? (i := 157) rfl)) rfl
theorem kw1400 : (Cond.selects RX10 yX10_free yX10_free) ∈ G := mG (sgT7 _ (List.mem_of_getElem? (i := 158) rfl)) rfl
theorem kw1401 : (Cond.code yX10_free cX10_free 3 (some .int)) ∈ G := mG (sgT7 _ (List.mem_of_getElem? (i := 159) rfl)) rfl
theorem kw1402 : (Cond.methodLink RX10 145 yX10_isRule) ∈ G := mG (sgT7 _ (List.mem_of_getElem? (i := 160) rfl)) rfl
theorem kw1403 : (Cond.instanceMethod yX10_isRule) ∈ G := mG (sgT7 _ (List.mem_of_getElem? (i := 162) rfl)) rfl
theorem kw1404 : (Cond.code yX10_isRule cX10_isRule 2 (some .boolean)) ∈ G := mG (sgT7 _ (List.mem_of_getElem? (i := 163) rfl)) rfl
theorem kw1405 : (Cond.methodLink RL 56 yX10_limit) ∈ G := mG (sgT7 _ (List.mem_of_getElem? (i := 164) rfl)) rfl
theorem kw1406 : (Cond.instanceMethod yX10_limit) ∈ G := mG (sgT7 _ (List.mem_of_getElem? (i := 165) rfl)) rfl
theorem kw1407 : (Cond.selects RX10 yX10_limit yX10_limit) ∈ G := mG (sgT7 _ (List.mem_of_getElem? (i := 166) rfl)) rfl
theorem kw1408 : (Cond.code yX10_limit cX10_limit 2 (some .int)) ∈ G := mG (sgT7 _ (List.mem_of_getElem? (i := 167) rfl)) rfl
theorem kw1409 : (Cond.methodLink RL 60 yX10_limits) ∈ G := mG (sgT7 _ (List.mem_of_getElem? (i := 168) rfl)) rfl
theorem kw1410 : (Cond.instanceMethod yX10_limits) ∈ G := mG (sgT7 _ (List.mem_of_getElem? (i := 169) rfl)) rfl
theorem kw1411 : (Cond.selects RX10 yX10_limits yX10_limits) ∈ G := mG (sgT7 _ (List.mem_of_getElem? (i := 170) rfl)) rfl
theorem kw1412 : (Cond.code yX10_limits cX10_limits 2 (some .int)) ∈ G := mG (sgT7 _ (List.mem_of_getElem? (i := 171) rfl)) rfl
theorem kw1413 : (Cond.methodLink RL 64 yX10_ties) ∈ G := mG (sgT7 _ (List.mem_of_getElem? (i := 172) rfl)) rfl
theorem kw1414 : (Cond.instanceMethod yX10_ties) ∈ G := mG (sgT7 _ (List.mem_of_getElem? (i := 173) rfl)) rfl
theorem kw1415 : (Cond.selects RX10 yX10_ties yX10_ties) ∈ G := mG (sgT7 _ (List.mem_of_getElem? (i := 174) rfl)) rfl
theorem kw1416 : (Cond.code yX10_ties cX10_ties 3 (some .int)) ∈ G := mG (sgT7 _ (List.mem_of_getElem? (i := 175) rfl)) rfl
theorem kw1417 : (Cond.methodLink RL 68 yX10_of) ∈ G := mG (sgT7 _ (List.mem_of_getElem? (i := 176) rfl)) rfl
theorem kw1418 : (Cond.instanceMethod yX10_of) ∈ G := mG (sgT7 _ (List.mem_of_getElem? (i := 177) rfl)) rfl
theorem kw1419 : (Cond.selects RX10 yX10_of yX10_of) ∈ G := mG (sgT7 _ (List.mem_of_getElem? (i := 178) rfl)) rfl
theorem kw1420 : (Cond.code yX10_of cX10_of 3 (some .int)) ∈ G := mG (sgT7 _ (List.mem_of_getElem? (i := 179) rfl)) rfl
theorem kw1421 : (Cond.methodLink RX10 151 yX10_mark) ∈ G := mG (sgT7 _ (List.mem_of_getElem? (i := 180) rfl)) rfl
theorem kw1422 : (Cond.instanceMethod yX10_mark) ∈ G := mG (sgT7 _ (List.mem_of_getElem? (i := 182) rfl)) rfl
theorem kw1423 : (Cond.code yX10_mark cX10_mark 2 (some .int)) ∈ G := mG (sgT7 _ (List.mem_of_getElem? (i := 183) rfl)) rfl
theorem kw1424 : (Cond.methodLink RX10 115 yX10_markBy) ∈ G := mG (sgT7 _ (List.mem_of_getElem? (i := 184) rfl)) rfl
theorem kw1425 : (Cond.static yX10_markBy) ∈ G := mG (sgT7 _ (List.mem_of_getElem? (i := 185) rfl)) rfl
theorem kw1426 : (Cond.code yX10_markBy cX10_markBy 3 (some .int)) ∈ G := mG (sgT7 _ (List.mem_of_getElem? (i := 186) rfl)) rfl
theorem kw1427 : (Cond.methodLink RX10 106 yJ9_max_7cf53) ∈ G := mG (sgT7 _ (List.mem_of_getElem? (i := 187) rfl)) rfl
theorem kw1428 : (Cond.methodLink RX10 112 yJ9_min_7cf53) ∈ G := mG (sgT7 _ (List.mem_of_getElem? (i := 188) rfl)) rfl
theorem kw1429 : (Cond.methodLink RX10 154 yX10_weight) ∈ G := mG (sgT7 _ (List.mem_of_getElem? (i := 189) rfl)) rfl
theorem kw1430 : (Cond.instanceMethod yX10_weight) ∈ G := mG (sgT7 _ (List.mem_of_getElem? (i := 191) rfl)) rfl
theorem kw1431 : (Cond.code yX10_weight cX10_weight 2 (some .int)) ∈ G := mG (sgT7 _ (List.mem_of_getElem? (i := 192) rfl)) rfl
theorem kw1432 : (Cond.methodLink RX10 157 yX10_gradeOf) ∈ G := mG (sgT7 _ (List.mem_of_getElem? (i := 193) rfl)) rfl
theorem kw1433 : (Cond.instanceMethod yX10_gradeOf) ∈ G := mG (sgT7 _ (List.mem_of_getElem? (i := 195) rfl)) rfl
theorem kw1434 : (Cond.code yX10_gradeOf cX10_gradeOf 7 (some .int)) ∈ G := mG (sgT7 _ (List.mem_of_getElem? (i := 196) rfl)) rfl
theorem kw1435 : (Cond.methodLink RL 72 yX10_ruleOf) ∈ G := mG (sgT7 _ (List.mem_of_getElem? (i := 197) rfl)) rfl
theorem kw1436 : (Cond.instanceMethod yX10_ruleOf) ∈ G := mG (sgT7 _ (List.mem_of_getElem? (i := 198) rfl)) rfl
theorem kw1437 : (Cond.selects RX10 yX10_ruleOf yX10_ruleOf) ∈ G := mG (sgT7 _ (List.mem_of_getElem? (i := 199) rfl)) rfl
theorem kw1438 : (Cond.code yX10_ruleOf cX10_ruleOf 3 (some .int)) ∈ G := mG (sgT7 _ (List.mem_of_getElem? (i := 200) rfl)) rfl
theorem kw1439 : (Cond.methodLink RX10 161 yX10_isHindered) ∈ G := mG (sgT7 _ (List.mem_of_getElem? (i := 201) rfl)) rfl
theorem kw1440 : (Cond.instanceMethod yX10_isHindered) ∈ G := mG (sgT7 _ (List.mem_of_getElem? (i := 203) rfl)) rfl
theorem kw1441 : (Cond.code yX10_isHindered cX10_isHindered 2 (some .boolean)) ∈ G := mG (sgT7 _ (List.mem_of_getElem? (i := 204) rfl)) rfl
theorem kw1442 : (Cond.methodLink RL 76 yX10_under) ∈ G := mG (sgT7 _ (List.mem_of_getElem? (i := 205) rfl)) rfl
theorem kw1443 : (Cond.instanceMethod yX10_under) ∈ G := mG (sgT7 _ (List.mem_of_getElem? (i := 206) rfl)) rfl
theorem kw1444 : (Cond.selects RX10 yX10_under yX10_under) ∈ G := mG (sgT7 _ (List.mem_of_getElem? (i := 207) rfl)) rfl
theorem kw1445 : (Cond.code yX10_under cX10_under 3 (some .int)) ∈ G := mG (sgT7 _ (List.mem_of_getElem? (i := 208) rfl)) rfl
theorem kw1446 : (Cond.methodLink RL 80 yX10_pairs) ∈ G := mG (sgT7 _ (List.mem_of_getElem? (i := 209) rfl)) rfl
theorem kw1447 : (Cond.instanceMethod yX10_pairs) ∈ G := mG (sgT7 _ (List.mem_of_getElem? (i := 210) rfl)) rfl
theorem kw1448 : (Cond.selects RX10 yX10_pairs yX10_pairs) ∈ G := mG (sgT7 _ (List.mem_of_getElem? (i := 211) rfl)) rfl
theorem kw1449 : (Cond.code yX10_pairs cX10_pairs 5 (some .int)) ∈ G := mG (sgT7 _ (List.mem_of_getElem? (i := 212) rfl)) rfl
theorem kw1450 : (Cond.methodLink RX10 167 yX10_pairMany) ∈ G := mG (sgT7 _ (List.mem_of_getElem? (i := 213) rfl)) rfl
theorem kw1451 : (Cond.instanceMethod yX10_pairMany) ∈ G := mG (sgT7 _ (List.mem_of_getElem? (i := 215) rfl)) rfl
theorem kw1452 : (Cond.code yX10_pairMany cX10_pairMany 4 (some .int)) ∈ G := mG (sgT7 _ (List.mem_of_getElem? (i := 216) rfl)) rfl
theorem kw1453 : (Cond.methodLink RX10 164 yX10_isPair) ∈ G := mG (sgT7 _ (List.mem_of_getElem? (i := 217) rfl)) rfl
theorem kw1454 : (Cond.instanceMethod yX10_isPair) ∈ G := mG (sgT7 _ (List.mem_of_getElem? (i := 219) rfl)) rfl
theorem kw1455 : (Cond.code yX10_isPair cX10_isPair 3 (some .boolean)) ∈ G := mG (sgT7 _ (List.mem_of_getElem? (i := 220) rfl)) rfl
theorem kw1456 : (Cond.methodLink RX10 170 yJ6_bitCount_0f7a4) ∈ G := mG (sgT7 _ (List.mem_of_getElem? (i := 221) rfl)) rfl
theorem kw1457 : (Cond.methodLink RX10 175 yX10_covers) ∈ G := mG (sgT7 _ (List.mem_of_getElem? (i := 222) rfl)) rfl
theorem kw1458 : (Cond.instanceMethod yX10_covers) ∈ G := mG (sgT7 _ (List.mem_of_getElem? (i := 224) rfl)) rfl
theorem kw1459 : (Cond.code yX10_covers cX10_covers 4 (some .boolean)) ∈ G := mG (sgT7 _ (List.mem_of_getElem? (i := 225) rfl)) rfl
theorem kw1460 : (Cond.methodLink RL 85 yX10_line) ∈ G := mG (sgT7 _ (List.mem_of_getElem? (i := 226) rfl)) rfl
theorem kw1461 : (Cond.instanceMethod yX10_line) ∈ G := mG (sgT7 _ (List.mem_of_getElem? (i := 227) rfl)) rfl
theorem kw1462 : (Cond.selects RX10 yX10_line yX10_line) ∈ G := mG (sgT7 _ (List.mem_of_getElem? (i := 228) rfl)) rfl
theorem kw1463 : (Cond.code yX10_line cX10_line 4 (some .long)) ∈ G := mG (sgT7 _ (List.mem_of_getElem? (i := 229) rfl)) rfl
theorem kw1464 : (Cond.methodLink RX10 223 yX10_isLine) ∈ G := mG (sgT7 _ (List.mem_of_getElem? (i := 230) rfl)) rfl
theorem kw1465 : (Cond.static yX10_isLine) ∈ G := mG (sgT7 _ (List.mem_of_getElem? (i := 231) rfl)) rfl
theorem kw1466 : (Cond.code yX10_isLine cX10_isLine 1 (some .boolean)) ∈ G := mG (sgT7 _ (List.mem_of_getElem? (i := 232) rfl)) rfl
theorem kw1467 : (Cond.methodLink RX10 226 yX10_far) ∈ G := mG (sgT7 _ (List.mem_of_getElem? (i := 233) rfl)) rfl
theorem kw1468 : (Cond.instanceMethod yX10_far) ∈ G := mG (sgT7 _ (List.mem_of_getElem? (i := 235) rfl)) rfl
theorem kw1469 : (Cond.code yX10_far cX10_far 2 (some .long)) ∈ G := mG (sgT7 _ (List.mem_of_getElem? (i := 236) rfl)) rfl
theorem kw1470 : (Cond.constantLong RX10 74 (4000000000000000000 : Int64)) ∈ G := mG (sgT7 _ (List.mem_of_getElem? (i := 237) rfl)) rfl
theorem kw1471 : (Cond.methodLink RX10 230 yX10_isPart) ∈ G := mG (sgT7 _ (List.mem_of_getElem? (i := 238) rfl)) rfl
theorem kw1472 : (Cond.static yX10_isPart) ∈ G := mG (sgT7 _ (List.mem_of_getElem? (i := 239) rfl)) rfl
theorem kw1473 : (Cond.code yX10_isPart cX10_isPart 1 (some .boolean)) ∈ G := mG (sgT8 _ (List.mem_of_getElem? (i := 0) rfl)) rfl
theorem kw1474 : (Cond.methodLink RX10 233 yX10_lines) ∈ G := mG (sgT8 _ (List.mem_of_getElem? (i := 1) rfl)) rfl
theorem kw1475 : (Cond.instanceMethod yX10_lines) ∈ G := mG (sgT8 _ (List.mem_of_getElem? (i := 3) rfl)) rfl
theorem kw1476 : (Cond.code yX10_lines cX10_lines 4 none) ∈ G := mG (sgT8 _ (List.mem_of_getElem? (i := 4) rfl)) rfl
theorem kw1477 : (Cond.methodLink RX10 208 yX10_begins) ∈ G := mG (sgT8 _ (List.mem_of_getElem? (i := 5) rfl)) rfl
theorem kw1478 : (Cond.instanceMethod yX10_begins) ∈ G := mG (sgT8 _ (List.mem_of_getElem? (i := 7) rfl)) rfl
theorem kw1479 : (Cond.code yX10_begins cX10_begins 4 none) ∈ G := mG (sgT8 _ (List.mem_of_getElem? (i := 8) rfl)) rfl
theorem kw1480 : (Cond.methodLink RX10 199 yX10_isAhead) ∈ G := mG (sgT8 _ (List.mem_of_getElem? (i := 9) rfl)) rfl
theorem kw1481 : (Cond.instanceMethod yX10_isAhead) ∈ G := mG (sgT8 _ (List.mem_of_getElem? (i := 11) rfl)) rfl
theorem kw1482 : (Cond.code yX10_isAhead cX10_isAhead 3 (some .boolean)) ∈ G := mG (sgT8 _ (List.mem_of_getElem? (i := 12) rfl)) rfl
theorem kw1483 : (Cond.methodLink RX10 202 yX10_ofPlace) ∈ G := mG (sgT8 _ (List.mem_of_getElem? (i := 13) rfl)) rfl
theorem kw1484 : (Cond.instanceMethod yX10_ofPlace) ∈ G := mG (sgT8 _ (List.mem_of_getElem? (i := 15) rfl)) rfl
theorem kw1485 : (Cond.code yX10_ofPlace cX10_ofPlace 4 (some .int)) ∈ G := mG (sgT8 _ (List.mem_of_getElem? (i := 16) rfl)) rfl
theorem kw1486 : (Cond.methodLink RX10 214 yX10_firstWrong) ∈ G := mG (sgT8 _ (List.mem_of_getElem? (i := 17) rfl)) rfl
theorem kw1487 : (Cond.instanceMethod yX10_firstWrong) ∈ G := mG (sgT8 _ (List.mem_of_getElem? (i := 19) rfl)) rfl
theorem kw1488 : (Cond.code yX10_firstWrong cX10_firstWrong 7 (some .int)) ∈ G := mG (sgT8 _ (List.mem_of_getElem? (i := 20) rfl)) rfl
theorem kw1489 : (Cond.methodLink RX10 205 yX10_number) ∈ G := mG (sgT8 _ (List.mem_of_getElem? (i := 21) rfl)) rfl
theorem kw1490 : (Cond.instanceMethod yX10_number) ∈ G := mG (sgT8 _ (List.mem_of_getElem? (i := 23) rfl)) rfl
theorem kw1491 : (Cond.code yX10_number cX10_number 3 none) ∈ G := mG (sgT8 _ (List.mem_of_getElem? (i := 24) rfl)) rfl
theorem kw1492 : (Cond.methodLink RX10 184 yX10_sumOf) ∈ G := mG (sgT8 _ (List.mem_of_getElem? (i := 25) rfl)) rfl
theorem kw1493 : (Cond.instanceMethod yX10_sumOf) ∈ G := mG (sgT8 _ (List.mem_of_getElem? (i := 27) rfl)) rfl
theorem kw1494 : (Cond.code yX10_sumOf cX10_sumOf 4 (some .int)) ∈ G := mG (sgT8 _ (List.mem_of_getElem? (i := 28) rfl)) rfl
theorem kw1495 : (Cond.methodLink RX10 187 yX10_middleOf) ∈ G := mG (sgT8 _ (List.mem_of_getElem? (i := 29) rfl)) rfl
theorem kw1496 : (Cond.instanceMethod yX10_middleOf) ∈ G := mG (sgT8 _ (List.mem_of_getElem? (i := 31) rfl)) rfl
theorem kw1497 : (Cond.code yX10_middleOf cX10_middleOf 5 (some .int)) ∈ G := mG (sgT8 _ (List.mem_of_getElem? (i := 32) rfl)) rfl
theorem kw1498 : (Cond.methodLink RX10 178 yX10_weightOf) ∈ G := mG (sgT8 _ (List.mem_of_getElem? (i := 33) rfl)) rfl
theorem kw1499 : (Cond.instanceMethod yX10_weightOf) ∈ G := mG (sgT8 _ (List.mem_of_getElem? (i := 35) rfl)) rfl
theorem kw1500 : (Cond.code yX10_weightOf cX10_weightOf 4 (some .int)) ∈ G := mG (sgT8 _ (List.mem_of_getElem? (i := 36) rfl)) rfl
theorem kw1501 : (Cond.methodLink RX10 181 yX10_weightUpTo) ∈ G := mG (sgT8 _ (List.mem_of_getElem? (i := 37) rfl)) rfl
theorem kw1502 : (Cond.instanceMethod yX10_weightUpTo) ∈ G := mG (sgT8 _ (List.mem_of_getElem? (i := 39) rfl)) rfl
theorem kw1503 : (Cond.code yX10_weightUpTo cX10_weightUpTo 5 (some .int)) ∈ G := mG (sgT8 _ (List.mem_of_getElem? (i := 40) rfl)) rfl
theorem kw1504 : (Cond.methodLink RX10 236 yX10_lineValue) ∈ G := mG (sgT8 _ (List.mem_of_getElem? (i := 41) rfl)) rfl
theorem kw1505 : (Cond.instanceMethod yX10_lineValue) ∈ G := mG (sgT8 _ (List.mem_of_getElem? (i := 43) rfl)) rfl
theorem kw1506 : (Cond.code yX10_lineValue cX10_lineValue 3 none) ∈ G := mG (sgT8 _ (List.mem_of_getElem? (i := 44) rfl)) rfl
theorem kw1507 : (Cond.methodLink RX10 217 yX10_blockOf) ∈ G := mG (sgT8 _ (List.mem_of_getElem? (i := 45) rfl)) rfl
theorem kw1508 : (Cond.instanceMethod yX10_blockOf) ∈ G := mG (sgT8 _ (List.mem_of_getElem? (i := 47) rfl)) rfl
theorem kw1509 : (Cond.code yX10_blockOf cX10_blockOf 3 (some .int)) ∈ G := mG (sgT8 _ (List.mem_of_getElem? (i := 48) rfl)) rfl
theorem kw1510 : (Cond.methodLink RX10 102 yX10_fraction) ∈ G := mG (sgT8 _ (List.mem_of_getElem? (i := 49) rfl)) rfl
theorem kw1511 : (Cond.instanceMethod yX10_fraction) ∈ G := mG (sgT8 _ (List.mem_of_getElem? (i := 51) rfl)) rfl
theorem kw1512 : (Cond.code yX10_fraction cX10_fraction 7 none) ∈ G := mG (sgT8 _ (List.mem_of_getElem? (i := 52) rfl)) rfl
theorem kw1513 : (Cond.methodLink RX10 91 yX10_divisor) ∈ G := mG (sgT8 _ (List.mem_of_getElem? (i := 53) rfl)) rfl
theorem kw1514 : (Cond.static yX10_divisor) ∈ G := mG (sgT8 _ (List.mem_of_getElem? (i := 54) rfl)) rfl
theorem kw1515 : (Cond.code yX10_divisor cX10_divisor 10 (some .long)) ∈ G := mG (sgT8 _ (List.mem_of_getElem? (i := 55) rfl)) rfl
theorem kw1516 : (Cond.methodLink RX10 220 yX10_add) ∈ G := mG (sgT8 _ (List.mem_of_getElem? (i := 56) rfl)) rfl
theorem kw1517 : (Cond.instanceMethod yX10_add) ∈ G := mG (sgT8 _ (List.mem_of_getElem? (i := 58) rfl)) rfl
theorem kw1518 : (Cond.code yX10_add cX10_add 7 none) ∈ G := mG (sgT8 _ (List.mem_of_getElem? (i := 59) rfl)) rfl
theorem kw1519 : (Cond.methodLink RX10 239 yX10_part) ∈ G := mG (sgT8 _ (List.mem_of_getElem? (i := 60) rfl)) rfl
theorem kw1520 : (Cond.instanceMethod yX10_part) ∈ G := mG (sgT8 _ (List.mem_of_getElem? (i := 62) rfl)) rfl
theorem kw1521 : (Cond.code yX10_part cX10_part 2 (some .long)) ∈ G := mG (sgT8 _ (List.mem_of_getElem? (i := 63) rfl)) rfl
theorem kw1522 : (Cond.methodLink RL 89 yX10_block) ∈ G := mG (sgT8 _ (List.mem_of_getElem? (i := 64) rfl)) rfl
theorem kw1523 : (Cond.instanceMethod yX10_block) ∈ G := mG (sgT8 _ (List.mem_of_getElem? (i := 65) rfl)) rfl
theorem kw1524 : (Cond.selects RX10 yX10_block yX10_block) ∈ G := mG (sgT8 _ (List.mem_of_getElem? (i := 66) rfl)) rfl
theorem kw1525 : (Cond.code yX10_block cX10_block 3 (some .int)) ∈ G := mG (sgT8 _ (List.mem_of_getElem? (i := 67) rfl)) rfl
theorem kw1526 : (Cond.methodLink RL 93 yX10_merges) ∈ G := mG (sgT8 _ (List.mem_of_getElem? (i := 68) rfl)) rfl
theorem kw1527 : (Cond.instanceMethod yX10_merges) ∈ G := mG (sgT8 _ (List.mem_of_getElem? (i := 69) rfl)) rfl
theorem kw1528 : (Cond.selects RX10 yX10_merges yX10_merges) ∈ G := mG (sgT8 _ (List.mem_of_getElem? (i := 70) rfl)) rfl
theorem kw1529 : (Cond.code yX10_merges cX10_merges 2 (some .int)) ∈ G := mG (sgT8 _ (List.mem_of_getElem? (i := 71) rfl)) rfl
theorem kw1530 : (Cond.methodLink RL 98 yX10_lineChange) ∈ G := mG (sgT8 _ (List.mem_of_getElem? (i := 72) rfl)) rfl
theorem kw1531 : (Cond.instanceMethod yX10_lineChange) ∈ G := mG (sgT8 _ (List.mem_of_getElem? (i := 73) rfl)) rfl
theorem kw1532 : (Cond.selects RX10 yX10_lineChange yX10_lineChange) ∈ G := mG (sgT8 _ (List.mem_of_getElem? (i := 74) rfl)) rfl
theorem kw1533 : (Cond.code yX10_lineChange cX10_lineChange 3 (some .long)) ∈ G := mG (sgT8 _ (List.mem_of_getElem? (i := 75) rfl)) rfl
theorem kw1534 : (Cond.methodLink RX10 249 yX10_lineSquares) ∈ G := mG (sgT8 _ (List.mem_of_getElem? (i := 76) rfl)) rfl
theorem kw1535 : (Cond.instanceMethod yX10_lineSquares) ∈ G := mG (sgT8 _ (List.mem_of_getElem? (i := 78) rfl)) rfl
theorem kw1536 : (Cond.code yX10_lineSquares cX10_lineSquares 2 none) ∈ G := mG (sgT8 _ (List.mem_of_getElem? (i := 79) rfl)) rfl
theorem kw1537 : (Cond.methodLink RX10 242 yX10_addSquares) ∈ G := mG (sgT8 _ (List.mem_of_getElem? (i := 80) rfl)) rfl
theorem kw1538 : (Cond.instanceMethod yX10_addSquares) ∈ G := mG (sgT8 _ (List.mem_of_getElem? (i := 82) rfl)) rfl
theorem kw1539 : (Cond.code yX10_addSquares cX10_addSquares 5 none) ∈ G := mG (sgT8 _ (List.mem_of_getElem? (i := 83) rfl)) rfl
theorem kw1540 : (Cond.methodLink RX10 252 yX10_lineSums) ∈ G := mG (sgT8 _ (List.mem_of_getElem? (i := 84) rfl)) rfl
theorem kw1541 : (Cond.instanceMethod yX10_lineSums) ∈ G := mG (sgT8 _ (List.mem_of_getElem? (i := 86) rfl)) rfl
theorem kw1542 : (Cond.code yX10_lineSums cX10_lineSums 4 none) ∈ G := mG (sgT8 _ (List.mem_of_getElem? (i := 87) rfl)) rfl
theorem kw1543 : (Cond.methodLink RX10 245 yJ9_abs_067f4) ∈ G := mG (sgT8 _ (List.mem_of_getElem? (i := 88) rfl)) rfl
theorem kw1544 : (Cond.methodLink RL 102 yX10_value) ∈ G := mG (sgT8 _ (List.mem_of_getElem? (i := 89) rfl)) rfl
theorem kw1545 : (Cond.instanceMethod yX10_value) ∈ G := mG (sgT8 _ (List.mem_of_getElem? (i := 90) rfl)) rfl
theorem kw1546 : (Cond.selects RX10 yX10_value yX10_value) ∈ G := mG (sgT8 _ (List.mem_of_getElem? (i := 91) rfl)) rfl
theorem kw1547 : (Cond.code yX10_value cX10_value 4 (some .long)) ∈ G := mG (sgT8 _ (List.mem_of_getElem? (i := 92) rfl)) rfl
theorem kw1548 : (Cond.methodLink RX10 287 yX10_isLoss) ∈ G := mG (sgT8 _ (List.mem_of_getElem? (i := 93) rfl)) rfl
theorem kw1549 : (Cond.static yX10_isLoss) ∈ G := mG (sgT8 _ (List.mem_of_getElem? (i := 94) rfl)) rfl
theorem kw1550 : (Cond.code yX10_isLoss cX10_isLoss 1 (some .boolean)) ∈ G := mG (sgT8 _ (List.mem_of_getElem? (i := 95) rfl)) rfl
theorem kw1551 : (Cond.methodLink RX10 282 yX10_values) ∈ G := mG (sgT8 _ (List.mem_of_getElem? (i := 96) rfl)) rfl
theorem kw1552 : (Cond.instanceMethod yX10_values) ∈ G := mG (sgT8 _ (List.mem_of_getElem? (i := 98) rfl)) rfl
theorem kw1553 : (Cond.code yX10_values cX10_values 3 none) ∈ G := mG (sgT8 _ (List.mem_of_getElem? (i := 99) rfl)) rfl
theorem kw1554 : (Cond.methodLink RX10 255 yX10_leastSquares) ∈ G := mG (sgT8 _ (List.mem_of_getElem? (i := 100) rfl)) rfl
theorem kw1555 : (Cond.instanceMethod yX10_leastSquares) ∈ G := mG (sgT8 _ (List.mem_of_getElem? (i := 102) rfl)) rfl
theorem kw1556 : (Cond.code yX10_leastSquares cX10_leastSquares 12 none) ∈ G := mG (sgT8 _ (List.mem_of_getElem? (i := 103) rfl)) rfl
theorem kw1557 : (Cond.methodLink RX10 264 yX10_isLow) ∈ G := mG (sgT8 _ (List.mem_of_getElem? (i := 104) rfl)) rfl
theorem kw1558 : (Cond.instanceMethod yX10_isLow) ∈ G := mG (sgT8 _ (List.mem_of_getElem? (i := 106) rfl)) rfl
theorem kw1559 : (Cond.code yX10_isLow cX10_isLow 4 (some .boolean)) ∈ G := mG (sgT8 _ (List.mem_of_getElem? (i := 107) rfl)) rfl
theorem kw1560 : (Cond.methodLink RX10 267 yX10_gets) ∈ G := mG (sgT8 _ (List.mem_of_getElem? (i := 108) rfl)) rfl
theorem kw1561 : (Cond.instanceMethod yX10_gets) ∈ G := mG (sgT8 _ (List.mem_of_getElem? (i := 110) rfl)) rfl
theorem kw1562 : (Cond.code yX10_gets cX10_gets 6 none) ∈ G := mG (sgT8 _ (List.mem_of_getElem? (i := 111) rfl)) rfl
theorem kw1563 : (Cond.methodLink RX10 258 yX10_leastSums) ∈ G := mG (sgT8 _ (List.mem_of_getElem? (i := 112) rfl)) rfl
theorem kw1564 : (Cond.instanceMethod yX10_leastSums) ∈ G := mG (sgT8 _ (List.mem_of_getElem? (i := 114) rfl)) rfl
theorem kw1565 : (Cond.code yX10_leastSums cX10_leastSums 5 none) ∈ G := mG (sgT8 _ (List.mem_of_getElem? (i := 115) rfl)) rfl
theorem kw1566 : (Cond.methodLink RX10 274 yX10_isMark) ∈ G := mG (sgT8 _ (List.mem_of_getElem? (i := 116) rfl)) rfl
theorem kw1567 : (Cond.instanceMethod yX10_isMark) ∈ G := mG (sgT8 _ (List.mem_of_getElem? (i := 118) rfl)) rfl
theorem kw1568 : (Cond.code yX10_isMark cX10_isMark 3 (some .boolean)) ∈ G := mG (sgT8 _ (List.mem_of_getElem? (i := 119) rfl)) rfl
theorem kw1569 : (Cond.methodLink RX10 277 yX10_above) ∈ G := mG (sgT8 _ (List.mem_of_getElem? (i := 120) rfl)) rfl
theorem kw1570 : (Cond.instanceMethod yX10_above) ∈ G := mG (sgT8 _ (List.mem_of_getElem? (i := 122) rfl)) rfl
theorem kw1571 : (Cond.code yX10_above cX10_above 6 (some .int)) ∈ G := mG (sgT8 _ (List.mem_of_getElem? (i := 123) rfl)) rfl
theorem kw1572 : (Cond.methodLink RX10 271 yX10_costOf) ∈ G := mG (sgT8 _ (List.mem_of_getElem? (i := 124) rfl)) rfl
theorem kw1573 : (Cond.instanceMethod yX10_costOf) ∈ G := mG (sgT8 _ (List.mem_of_getElem? (i := 126) rfl)) rfl
theorem kw1574 : (Cond.code yX10_costOf cX10_costOf 5 (some .int)) ∈ G := mG (sgT8 _ (List.mem_of_getElem? (i := 127) rfl)) rfl
theorem kw1575 : (Cond.methodLink RX10 261 yX10_leastWorst) ∈ G := mG (sgT8 _ (List.mem_of_getElem? (i := 128) rfl)) rfl
theorem kw1576 : (Cond.instanceMethod yX10_leastWorst) ∈ G := mG (sgT8 _ (List.mem_of_getElem? (i := 130) rfl)) rfl
theorem kw1577 : (Cond.code yX10_leastWorst cX10_leastWorst 5 none) ∈ G := mG (sgT8 _ (List.mem_of_getElem? (i := 131) rfl)) rfl
theorem kw1578 : (Cond.constantLong RX10 280 (2 : Int64)) ∈ G := mG (sgT8 _ (List.mem_of_getElem? (i := 132) rfl)) rfl
theorem kw1579 : (Cond.methodLink RL 106 yX10_grade) ∈ G := mG (sgT8 _ (List.mem_of_getElem? (i := 133) rfl)) rfl
theorem kw1580 : (Cond.instanceMethod yX10_grade) ∈ G := mG (sgT8 _ (List.mem_of_getElem? (i := 134) rfl)) rfl
theorem kw1581 : (Cond.selects RX10 yX10_grade yX10_grade) ∈ G := mG (sgT8 _ (List.mem_of_getElem? (i := 135) rfl)) rfl
theorem kw1582 : (Cond.code yX10_grade cX10_grade 3 (some .int)) ∈ G := mG (sgT8 _ (List.mem_of_getElem? (i := 136) rfl)) rfl
theorem kw1583 : (Cond.methodLink RX10 290 yX10_gradeBy) ∈ G := mG (sgT8 _ (List.mem_of_getElem? (i := 137) rfl)) rfl
theorem kw1584 : (Cond.instanceMethod yX10_gradeBy) ∈ G := mG (sgT8 _ (List.mem_of_getElem? (i := 139) rfl)) rfl
theorem kw1585 : (Cond.code yX10_gradeBy cX10_gradeBy 3 (some .int)) ∈ G := mG (sgT8 _ (List.mem_of_getElem? (i := 140) rfl)) rfl
theorem kw1586 : (Cond.methodLink RL 110 yX10_change) ∈ G := mG (sgT8 _ (List.mem_of_getElem? (i := 141) rfl)) rfl
theorem kw1587 : (Cond.instanceMethod yX10_change) ∈ G := mG (sgT8 _ (List.mem_of_getElem? (i := 142) rfl)) rfl
theorem kw1588 : (Cond.selects RX10 yX10_change yX10_change) ∈ G := mG (sgT8 _ (List.mem_of_getElem? (i := 143) rfl)) rfl
theorem kw1589 : (Cond.code yX10_change cX10_change 3 (some .long)) ∈ G := mG (sgT8 _ (List.mem_of_getElem? (i := 144) rfl)) rfl
theorem kw1590 : (Cond.methodLink RX10 293 yX10_changes) ∈ G := mG (sgT8 _ (List.mem_of_getElem? (i := 145) rfl)) rfl
theorem kw1591 : (Cond.instanceMethod yX10_changes) ∈ G := mG (sgT8 _ (List.mem_of_getElem? (i := 147) rfl)) rfl
theorem kw1592 : (Cond.code yX10_changes cX10_changes 8 none) ∈ G := mG (sgT8 _ (List.mem_of_getElem? (i := 148) rfl)) rfl
theorem kw1593 : (Cond.methodLink RX10 285 yJ9_max_f86c9) ∈ G := mG (sgT8 _ (List.mem_of_getElem? (i := 149) rfl)) rfl
theorem kw1594 : (Cond.static yJ9_max_f86c9) ∈ G := mG (sgT8 _ (List.mem_of_getElem? (i := 150) rfl)) rfl
theorem kw1595 : (Cond.code yJ9_max_f86c9 cJ9_max_f86c9 4 (some .long)) ∈ G := mG (sgT8 _ (List.mem_of_getElem? (i := 151) rfl)) rfl
theorem kw1596 : (Cond.methodLink RL 114 yX10_pool) ∈ G := mG (sgT8 _ (List.mem_of_getElem? (i := 152) rfl)) rfl
theorem kw1597 : (Cond.instanceMethod yX10_pool) ∈ G := mG (sgT8 _ (List.mem_of_getElem? (i := 153) rfl)) rfl
theorem kw1598 : (Cond.selects RX10 yX10_pool yX10_pool) ∈ G := mG (sgT8 _ (List.mem_of_getElem? (i := 154) rfl)) rfl
theorem kw1599 : (Cond.code yX10_pool cX10_pool 3 (some .int)) ∈ G := mG (sgT8 _ (List.mem_of_getElem? (i := 155) rfl)) rfl
theorem kw1600 : (Cond.methodLink RX10 299 yX10_poolOf) ∈ G := mG (sgT8 _ (List.mem_of_getElem? (i := 156) rfl)) rfl
theorem kw1601 : (Cond.instanceMethod yX10_poolOf) ∈ G := mG (sgT8 _ (List.mem_of_getElem? (i := 158) rfl)) rfl
theorem kw1602 : (Cond.code yX10_poolOf cX10_poolOf 5 (some .int)) ∈ G := mG (sgT8 _ (List.mem_of_getElem? (i := 159) rfl)) rfl
theorem kw1603 : (Cond.methodLink RX10 296 yX10_isSame) ∈ G := mG (sgT8 _ (List.mem_of_getElem? (i := 160) rfl)) rfl
theorem kw1604 : (Cond.instanceMethod yX10_isSame) ∈ G := mG (sgT8 _ (List.mem_of_getElem? (i := 162) rfl)) rfl
theorem kw1605 : (Cond.code yX10_isSame cX10_isSame 3 (some .boolean)) ∈ G := mG (sgT8 _ (List.mem_of_getElem? (i := 163) rfl)) rfl
theorem kw1606 : (Cond.methodLink RL 118 yX10_binds) ∈ G := mG (sgT8 _ (List.mem_of_getElem? (i := 164) rfl)) rfl
theorem kw1607 : (Cond.instanceMethod yX10_binds) ∈ G := mG (sgT8 _ (List.mem_of_getElem? (i := 165) rfl)) rfl
theorem kw1608 : (Cond.selects RX10 yX10_binds yX10_binds) ∈ G := mG (sgT8 _ (List.mem_of_getElem? (i := 166) rfl)) rfl
theorem kw1609 : (Cond.code yX10_binds cX10_binds 4 (some .int)) ∈ G := mG (sgT8 _ (List.mem_of_getElem? (i := 167) rfl)) rfl
theorem kw1610 : (Cond.methodLink RL 122 yX10_worth) ∈ G := mG (sgT8 _ (List.mem_of_getElem? (i := 168) rfl)) rfl
theorem kw1611 : (Cond.instanceMethod yX10_worth) ∈ G := mG (sgT8 _ (List.mem_of_getElem? (i := 169) rfl)) rfl
theorem kw1612 : (Cond.selects RX10 yX10_worth yX10_worth) ∈ G := mG (sgT8 _ (List.mem_of_getElem? (i := 170) rfl)) rfl
theorem kw1613 : (Cond.code yX10_worth cX10_worth 8 (some .long)) ∈ G := mG (sgT8 _ (List.mem_of_getElem? (i := 171) rfl)) rfl
theorem kw1614 : (Cond.methodLink RL 126 yX10_dearest) ∈ G := mG (sgT8 _ (List.mem_of_getElem? (i := 172) rfl)) rfl
theorem kw1615 : (Cond.instanceMethod yX10_dearest) ∈ G := mG (sgT8 _ (List.mem_of_getElem? (i := 173) rfl)) rfl
theorem kw1616 : (Cond.selects RX10 yX10_dearest yX10_dearest) ∈ G := mG (sgT8 _ (List.mem_of_getElem? (i := 174) rfl)) rfl
theorem kw1617 : (Cond.code yX10_dearest cX10_dearest 8 (some .int)) ∈ G := mG (sgT8 _ (List.mem_of_getElem? (i := 175) rfl)) rfl
theorem kw1618 : (Cond.methodLink RL 130 yX10_needs) ∈ G := mG (sgT8 _ (List.mem_of_getElem? (i := 176) rfl)) rfl
theorem kw1619 : (Cond.instanceMethod yX10_needs) ∈ G := mG (sgT8 _ (List.mem_of_getElem? (i := 177) rfl)) rfl
theorem kw1620 : (Cond.selects RX10 yX10_needs yX10_needs) ∈ G := mG (sgT8 _ (List.mem_of_getElem? (i := 178) rfl)) rfl
theorem kw1621 : (Cond.code yX10_needs cX10_needs 7 (some .int)) ∈ G := mG (sgT8 _ (List.mem_of_getElem? (i := 179) rfl)) rfl
theorem kw1622 : (Cond.methodLink RL 135 yX10_likely) ∈ G := mG (sgT8 _ (List.mem_of_getElem? (i := 180) rfl)) rfl
theorem kw1623 : (Cond.instanceMethod yX10_likely) ∈ G := mG (sgT8 _ (List.mem_of_getElem? (i := 181) rfl)) rfl
theorem kw1624 : (Cond.selects RX10 yX10_likely yX10_likely) ∈ G := mG (sgT8 _ (List.mem_of_getElem? (i := 182) rfl)) rfl
theorem kw1625 : (Cond.code yX10_likely cX10_likely 14 (some .long)) ∈ G := mG (sgT8 _ (List.mem_of_getElem? (i := 183) rfl)) rfl
theorem kw1626 : (Cond.methodLink RL 139 yX10_says) ∈ G := mG (sgT8 _ (List.mem_of_getElem? (i := 184) rfl)) rfl
theorem kw1627 : (Cond.instanceMethod yX10_says) ∈ G := mG (sgT8 _ (List.mem_of_getElem? (i := 185) rfl)) rfl
theorem kw1628 : (Cond.selects RX10 yX10_says yX10_says) ∈ G := mG (sgT8 _ (List.mem_of_getElem? (i := 186) rfl)) rfl
theorem kw1629 : (Cond.code yX10_says cX10_says 3 (some .int)) ∈ G := mG (sgT8 _ (List.mem_of_getElem? (i := 187) rfl)) rfl
theorem kw1630 : (Cond.methodLink RX10 334 yX10_sayAll) ∈ G := mG (sgT8 _ (List.mem_of_getElem? (i := 188) rfl)) rfl
theorem kw1631 : (Cond.instanceMethod yX10_sayAll) ∈ G := mG (sgT8 _ (List.mem_of_getElem? (i := 190) rfl)) rfl
theorem kw1632 : (Cond.code yX10_sayAll cX10_sayAll 2 none) ∈ G := mG (sgT8 _ (List.mem_of_getElem? (i := 191) rfl)) rfl
theorem kw1633 : (Cond.methodLink RX10 321 yX10_sayNumber) ∈ G := mG (sgT8 _ (List.mem_of_getElem? (i := 192) rfl)) rfl
theorem kw1634 : (Cond.instanceMethod yX10_sayNumber) ∈ G := mG (sgT8 _ (List.mem_of_getElem? (i := 194) rfl)) rfl
theorem kw1635 : (Cond.code yX10_sayNumber cX10_sayNumber 5 none) ∈ G := mG (sgT8 _ (List.mem_of_getElem? (i := 195) rfl)) rfl
theorem kw1636 : (Cond.constantLong RX10 305 (9 : Int64)) ∈ G := mG (sgT8 _ (List.mem_of_getElem? (i := 196) rfl)) rfl
theorem kw1637 : (Cond.constantLong RX10 307 (10 : Int64)) ∈ G := mG (sgT8 _ (List.mem_of_getElem? (i := 197) rfl)) rfl
theorem kw1638 : (Cond.methodLink RX10 309 yX10_say) ∈ G := mG (sgT8 _ (List.mem_of_getElem? (i := 198) rfl)) rfl
theorem kw1639 : (Cond.instanceMethod yX10_say) ∈ G := mG (sgT8 _ (List.mem_of_getElem? (i := 200) rfl)) rfl
theorem kw1640 : (Cond.code yX10_say cX10_say 2 none) ∈ G := mG (sgT8 _ (List.mem_of_getElem? (i := 201) rfl)) rfl
theorem kw1641 : (Cond.methodLink RX10 325 yX10_sayOthers) ∈ G := mG (sgT8 _ (List.mem_of_getElem? (i := 202) rfl)) rfl
theorem kw1642 : (Cond.instanceMethod yX10_sayOthers) ∈ G := mG (sgT8 _ (List.mem_of_getElem? (i := 204) rfl)) rfl
theorem kw1643 : (Cond.code yX10_sayOthers cX10_sayOthers 4 none) ∈ G := mG (sgT8 _ (List.mem_of_getElem? (i := 205) rfl)) rfl
theorem kw1644 : (Cond.methodLink RX10 330 yX10_sayWord) ∈ G := mG (sgT8 _ (List.mem_of_getElem? (i := 207) rfl)) rfl
theorem kw1645 : (Cond.instanceMethod yX10_sayWord) ∈ G := mG (sgT8 _ (List.mem_of_getElem? (i := 209) rfl)) rfl
theorem kw1646 : (Cond.code yX10_sayWord cX10_sayWord 3 none) ∈ G := mG (sgT8 _ (List.mem_of_getElem? (i := 210) rfl)) rfl
theorem kw1647 : (Cond.methodLink RX10 312 yJ0_length_8abf5) ∈ G := mG (sgT8 _ (List.mem_of_getElem? (i := 211) rfl)) rfl
theorem kw1648 : (Cond.methodLink RX10 317 yJ0_charAt_5068e) ∈ G := mG (sgT8 _ (List.mem_of_getElem? (i := 212) rfl)) rfl
theorem kw1649 : (Cond.methodLink RL 143 yX10_whatIs) ∈ G := mG (sgT8 _ (List.mem_of_getElem? (i := 213) rfl)) rfl
theorem kw1650 : (Cond.instanceMethod yX10_whatIs) ∈ G := mG (sgT8 _ (List.mem_of_getElem? (i := 214) rfl)) rfl
theorem kw1651 : (Cond.selects RX10 yX10_whatIs yX10_whatIs) ∈ G := mG (sgT8 _ (List.mem_of_getElem? (i := 215) rfl)) rfl
theorem kw1652 : (Cond.code yX10_whatIs cX10_whatIs 5 (some .int)) ∈ G := mG (sgT8 _ (List.mem_of_getElem? (i := 216) rfl)) rfl
theorem kw1653 : (Cond.methodLink RX10 340 yX10_isTold) ∈ G := mG (sgT8 _ (List.mem_of_getElem? (i := 217) rfl)) rfl
theorem kw1654 : (Cond.instanceMethod yX10_isTold) ∈ G := mG (sgT8 _ (List.mem_of_getElem? (i := 219) rfl)) rfl
theorem kw1655 : (Cond.code yX10_isTold cX10_isTold 4 (some .boolean)) ∈ G := mG (sgT8 _ (List.mem_of_getElem? (i := 220) rfl)) rfl
theorem kw1656 : (Cond.methodLink RL 147 yX10_row) ∈ G := mG (sgT8 _ (List.mem_of_getElem? (i := 221) rfl)) rfl
theorem kw1657 : (Cond.instanceMethod yX10_row) ∈ G := mG (sgT8 _ (List.mem_of_getElem? (i := 222) rfl)) rfl
theorem kw1658 : (Cond.selects RX10 yX10_row yX10_row) ∈ G := mG (sgT8 _ (List.mem_of_getElem? (i := 223) rfl)) rfl
theorem kw1659 : (Cond.code yX10_row cX10_row 2 (some .int)) ∈ G := mG (sgT8 _ (List.mem_of_getElem? (i := 224) rfl)) rfl
theorem kw1660 : (Cond.methodLink RL 151 yX10_clear) ∈ G := mG (sgT8 _ (List.mem_of_getElem? (i := 225) rfl)) rfl
theorem kw1661 : (Cond.instanceMethod yX10_clear) ∈ G := mG (sgT8 _ (List.mem_of_getElem? (i := 226) rfl)) rfl
theorem kw1662 : (Cond.selects RX10 yX10_clear yX10_clear) ∈ G := mG (sgT8 _ (List.mem_of_getElem? (i := 227) rfl)) rfl
theorem kw1663 : (Cond.code yX10_clear cX10_clear 2 (some .int)) ∈ G := mG (sgT8 _ (List.mem_of_getElem? (i := 228) rfl)) rfl
theorem kw1664 : (Cond.methodLink RL 155 yX10_lots) ∈ G := mG (sgT8 _ (List.mem_of_getElem? (i := 229) rfl)) rfl
theorem kw1665 : (Cond.instanceMethod yX10_lots) ∈ G := mG (sgT8 _ (List.mem_of_getElem? (i := 230) rfl)) rfl
theorem kw1666 : (Cond.selects RX10 yX10_lots yX10_lots) ∈ G := mG (sgT8 _ (List.mem_of_getElem? (i := 231) rfl)) rfl
theorem kw1667 : (Cond.code yX10_lots cX10_lots 8 (some .int)) ∈ G := mG (sgT8 _ (List.mem_of_getElem? (i := 232) rfl)) rfl
theorem kw1668 : (Cond.methodLink RX10 343 yX10_keeps) ∈ G := mG (sgT8 _ (List.mem_of_getElem? (i := 233) rfl)) rfl
theorem kw1669 : (Cond.instanceMethod yX10_keeps) ∈ G := mG (sgT8 _ (List.mem_of_getElem? (i := 235) rfl)) rfl
theorem kw1670 : (Cond.code yX10_keeps cX10_keeps 3 none) ∈ G := mG (sgT8 _ (List.mem_of_getElem? (i := 236) rfl)) rfl
theorem kw1671 : (Cond.constant RX10 347 (1664525 : Int32)) ∈ G := mG (sgT8 _ (List.mem_of_getElem? (i := 237) rfl)) rfl
theorem kw1672 : (Cond.constant RX10 348 (1013904223 : Int32)) ∈ G := mG (sgT8 _ (List.mem_of_getElem? (i := 238) rfl)) rfl
theorem kw1673 : (Cond.constant RX10 349 (2147483647 : Int32)) ∈ G := mG (sgT8 _ (List.mem_of_getElem? (i := 239) rfl)) rfl
theorem kw1674 : (Cond.methodLink RX10 350 yX10_inPools) ∈ G := mG (sgT9 _ (List.mem_of_getElem? (i := 0) rfl)) rfl
theorem kw1675 : (Cond.instanceMethod yX10_inPools) ∈ G := mG (sgT9 _ (List.mem_of_getElem? (i := 2) rfl)) rfl
theorem kw1676 : (Cond.code yX10_inPools cX10_inPools 3 (some .int)) ∈ G := mG (sgT9 _ (List.mem_of_getElem? (i := 3) rfl)) rfl
theorem kw1677 : (Cond.methodLink RX10 353 yX10_again) ∈ G := mG (sgT9 _ (List.mem_of_getElem? (i := 4) rfl)) rfl
theorem kw1678 : (Cond.instanceMethod yX10_again) ∈ G := mG (sgT9 _ (List.mem_of_getElem? (i := 6) rfl)) rfl
theorem kw1679 : (Cond.code yX10_again cX10_again 3 none) ∈ G := mG (sgT9 _ (List.mem_of_getElem? (i := 7) rfl)) rfl
theorem kw1680 : (Cond.methodLink RL 159 yX10_shelf) ∈ G := mG (sgT9 _ (List.mem_of_getElem? (i := 8) rfl)) rfl
theorem kw1681 : (Cond.instanceMethod yX10_shelf) ∈ G := mG (sgT9 _ (List.mem_of_getElem? (i := 9) rfl)) rfl
theorem kw1682 : (Cond.selects RX10 yX10_shelf yX10_shelf) ∈ G := mG (sgT9 _ (List.mem_of_getElem? (i := 10) rfl)) rfl
theorem kw1683 : (Cond.code yX10_shelf cX10_shelf 4 (some .int)) ∈ G := mG (sgT9 _ (List.mem_of_getElem? (i := 11) rfl)) rfl
theorem kw1684 : (Cond.methodLink RX10 356 yX10_isShelf) ∈ G := mG (sgT9 _ (List.mem_of_getElem? (i := 12) rfl)) rfl
theorem kw1685 : (Cond.static yX10_isShelf) ∈ G := mG (sgT9 _ (List.mem_of_getElem? (i := 13) rfl)) rfl
theorem kw1686 : (Cond.code yX10_isShelf cX10_isShelf 1 (some .boolean)) ∈ G := mG (sgT9 _ (List.mem_of_getElem? (i := 14) rfl)) rfl
theorem kw1687 : (Cond.methodLink RL 166 yX10_put) ∈ G := mG (sgT9 _ (List.mem_of_getElem? (i := 15) rfl)) rfl
theorem kw1688 : (Cond.instanceMethod yX10_put) ∈ G := mG (sgT9 _ (List.mem_of_getElem? (i := 16) rfl)) rfl
theorem kw1689 : (Cond.selects RX10 yX10_put yX10_put) ∈ G := mG (sgT9 _ (List.mem_of_getElem? (i := 17) rfl)) rfl
theorem kw1690 : (Cond.code yX10_put cX10_put 5 (some .int)) ∈ G := mG (sgT9 _ (List.mem_of_getElem? (i := 18) rfl)) rfl
theorem kw1691 : (Cond.methodLink RX10 359 yX10_isPlace) ∈ G := mG (sgT9 _ (List.mem_of_getElem? (i := 19) rfl)) rfl
theorem kw1692 : (Cond.instanceMethod yX10_isPlace) ∈ G := mG (sgT9 _ (List.mem_of_getElem? (i := 21) rfl)) rfl
theorem kw1693 : (Cond.code yX10_isPlace cX10_isPlace 3 (some .boolean)) ∈ G := mG (sgT9 _ (List.mem_of_getElem? (i := 22) rfl)) rfl
theorem kw1694 : (Cond.methodLink RL 170 yX10_look) ∈ G := mG (sgT9 _ (List.mem_of_getElem? (i := 23) rfl)) rfl
theorem kw1695 : (Cond.instanceMethod yX10_look) ∈ G := mG (sgT9 _ (List.mem_of_getElem? (i := 24) rfl)) rfl
theorem kw1696 : (Cond.selects RX10 yX10_look yX10_look) ∈ G := mG (sgT9 _ (List.mem_of_getElem? (i := 25) rfl)) rfl
theorem kw1697 : (Cond.code yX10_look cX10_look 3 (some .long)) ∈ G := mG (sgT9 _ (List.mem_of_getElem? (i := 26) rfl)) rfl
theorem kw1698 : (Cond.constantLong RX10 362 (4000000000000000011 : Int64)) ∈ G := mG (sgT9 _ (List.mem_of_getElem? (i := 27) rfl)) rfl
theorem kw1699 : (Cond.constantLong RX10 364 (4000000000000000013 : Int64)) ∈ G := mG (sgT9 _ (List.mem_of_getElem? (i := 28) rfl)) rfl
theorem kw1700 : (Cond.methodLink RL 174 yX10_lays) ∈ G := mG (sgT9 _ (List.mem_of_getElem? (i := 29) rfl)) rfl
theorem kw1701 : (Cond.instanceMethod yX10_lays) ∈ G := mG (sgT9 _ (List.mem_of_getElem? (i := 30) rfl)) rfl
theorem kw1702 : (Cond.selects RX10 yX10_lays yX10_lays) ∈ G := mG (sgT9 _ (List.mem_of_getElem? (i := 31) rfl)) rfl
theorem kw1703 : (Cond.code yX10_lays cX10_lays 5 (some .int)) ∈ G := mG (sgT9 _ (List.mem_of_getElem? (i := 32) rfl)) rfl
theorem kw1704 : (Cond.methodLink RX10 366 yX10_valueAt) ∈ G := mG (sgT9 _ (List.mem_of_getElem? (i := 33) rfl)) rfl
theorem kw1705 : (Cond.instanceMethod yX10_valueAt) ∈ G := mG (sgT9 _ (List.mem_of_getElem? (i := 35) rfl)) rfl
theorem kw1706 : (Cond.code yX10_valueAt cX10_valueAt 2 (some .int)) ∈ G := mG (sgT9 _ (List.mem_of_getElem? (i := 36) rfl)) rfl
theorem kw1707 : (Cond.methodLink RL 178 yX10_judge) ∈ G := mG (sgT9 _ (List.mem_of_getElem? (i := 37) rfl)) rfl
theorem kw1708 : (Cond.instanceMethod yX10_judge) ∈ G := mG (sgT9 _ (List.mem_of_getElem? (i := 38) rfl)) rfl
theorem kw1709 : (Cond.selects RX10 yX10_judge yX10_judge) ∈ G := mG (sgT9 _ (List.mem_of_getElem? (i := 39) rfl)) rfl
theorem kw1710 : (Cond.code yX10_judge cX10_judge 4 (some .int)) ∈ G := mG (sgT9 _ (List.mem_of_getElem? (i := 40) rfl)) rfl
theorem kw1711 : (Cond.methodLink RL 17 yX10_letter) ∈ G := mG (sgT9 _ (List.mem_of_getElem? (i := 41) rfl)) rfl
theorem kw1712 : (Cond.instanceMethod yX10_letter) ∈ G := mG (sgT9 _ (List.mem_of_getElem? (i := 42) rfl)) rfl
theorem kw1713 : (Cond.selects RX10 yX10_letter yX10_letter) ∈ G := mG (sgT9 _ (List.mem_of_getElem? (i := 43) rfl)) rfl
theorem kw1714 : (Cond.code yX10_letter cX10_letter 2 (some .int)) ∈ G := mG (sgT9 _ (List.mem_of_getElem? (i := 44) rfl)) rfl
theorem kw1715 : (Cond.methodLink RL 22 yX10_tells) ∈ G := mG (sgT9 _ (List.mem_of_getElem? (i := 45) rfl)) rfl
theorem kw1716 : (Cond.instanceMethod yX10_tells) ∈ G := mG (sgT9 _ (List.mem_of_getElem? (i := 46) rfl)) rfl
theorem kw1717 : (Cond.selects RX10 yX10_tells yX10_tells) ∈ G := mG (sgT9 _ (List.mem_of_getElem? (i := 47) rfl)) rfl
theorem kw1718 : (Cond.code yX10_tells cX10_tells 2 (some .int)) ∈ G := mG (sgT9 _ (List.mem_of_getElem? (i := 48) rfl)) rfl
theorem kw1719 : (Cond.methodLink RX10 431 yX10_tellsAll) ∈ G := mG (sgT9 _ (List.mem_of_getElem? (i := 49) rfl)) rfl
theorem kw1720 : (Cond.instanceMethod yX10_tellsAll) ∈ G := mG (sgT9 _ (List.mem_of_getElem? (i := 51) rfl)) rfl
theorem kw1721 : (Cond.code yX10_tellsAll cX10_tellsAll 4 (some .int)) ∈ G := mG (sgT9 _ (List.mem_of_getElem? (i := 52) rfl)) rfl
theorem kw1722 : (Cond.methodLink RX10 425 yX10_statement) ∈ G := mG (sgT9 _ (List.mem_of_getElem? (i := 53) rfl)) rfl
theorem kw1723 : (Cond.instanceMethod yX10_statement) ∈ G := mG (sgT9 _ (List.mem_of_getElem? (i := 55) rfl)) rfl
theorem kw1724 : (Cond.code yX10_statement cX10_statement 3 (some .int)) ∈ G := mG (sgT9 _ (List.mem_of_getElem? (i := 56) rfl)) rfl
theorem kw1725 : (Cond.methodLink RX10 400 yX10_readWord) ∈ G := mG (sgT9 _ (List.mem_of_getElem? (i := 57) rfl)) rfl
theorem kw1726 : (Cond.instanceMethod yX10_readWord) ∈ G := mG (sgT9 _ (List.mem_of_getElem? (i := 59) rfl)) rfl
theorem kw1727 : (Cond.code yX10_readWord cX10_readWord 5 (some .int)) ∈ G := mG (sgT9 _ (List.mem_of_getElem? (i := 60) rfl)) rfl
theorem kw1728 : (Cond.methodLink RX10 389 yX10_word) ∈ G := mG (sgT9 _ (List.mem_of_getElem? (i := 61) rfl)) rfl
theorem kw1729 : (Cond.static yX10_word) ∈ G := mG (sgT9 _ (List.mem_of_getElem? (i := 62) rfl)) rfl
theorem kw1730 : (Cond.code yX10_word cX10_word 1 (Option.some (Jvm.ClassFile.FieldType.object RJ0))) ∈ G := mG (sgT9 _ (List.mem_of_getElem? (i := 63) rfl)) rfl
theorem kw1731 : (Cond.methodLink RX10 386 yX10_here) ∈ G := mG (sgT9 _ (List.mem_of_getElem? (i := 72) rfl)) rfl
theorem kw1732 : (Cond.instanceMethod yX10_here) ∈ G := mG (sgT9 _ (List.mem_of_getElem? (i := 74) rfl)) rfl
theorem kw1733 : (Cond.code yX10_here cX10_here 1 (some .int)) ∈ G := mG (sgT9 _ (List.mem_of_getElem? (i := 75) rfl)) rfl
theorem kw1734 : (Cond.methodLink RX10 403 yX10_numbersOf) ∈ G := mG (sgT9 _ (List.mem_of_getElem? (i := 76) rfl)) rfl
theorem kw1735 : (Cond.static yX10_numbersOf) ∈ G := mG (sgT9 _ (List.mem_of_getElem? (i := 77) rfl)) rfl
theorem kw1736 : (Cond.code yX10_numbersOf cX10_numbersOf 1 (some .int)) ∈ G := mG (sgT9 _ (List.mem_of_getElem? (i := 78) rfl)) rfl
theorem kw1737 : (Cond.methodLink RX10 406 yX10_readNumber) ∈ G := mG (sgT9 _ (List.mem_of_getElem? (i := 79) rfl)) rfl
theorem kw1738 : (Cond.instanceMethod yX10_readNumber) ∈ G := mG (sgT9 _ (List.mem_of_getElem? (i := 81) rfl)) rfl
theorem kw1739 : (Cond.code yX10_readNumber cX10_readNumber 2 (some .boolean)) ∈ G := mG (sgT9 _ (List.mem_of_getElem? (i := 82) rfl)) rfl
theorem kw1740 : (Cond.methodLink RX10 393 yX10_takes) ∈ G := mG (sgT9 _ (List.mem_of_getElem? (i := 83) rfl)) rfl
theorem kw1741 : (Cond.instanceMethod yX10_takes) ∈ G := mG (sgT9 _ (List.mem_of_getElem? (i := 85) rfl)) rfl
theorem kw1742 : (Cond.code yX10_takes cX10_takes 2 (some .boolean)) ∈ G := mG (sgT9 _ (List.mem_of_getElem? (i := 86) rfl)) rfl
theorem kw1743 : (Cond.methodLink RX10 396 yX10_isDigit) ∈ G := mG (sgT9 _ (List.mem_of_getElem? (i := 87) rfl)) rfl
theorem kw1744 : (Cond.instanceMethod yX10_isDigit) ∈ G := mG (sgT9 _ (List.mem_of_getElem? (i := 89) rfl)) rfl
theorem kw1745 : (Cond.code yX10_isDigit cX10_isDigit 1 (some .boolean)) ∈ G := mG (sgT9 _ (List.mem_of_getElem? (i := 90) rfl)) rfl
theorem kw1746 : (Cond.methodLink RX10 428 yX10_does) ∈ G := mG (sgT9 _ (List.mem_of_getElem? (i := 91) rfl)) rfl
theorem kw1747 : (Cond.instanceMethod yX10_does) ∈ G := mG (sgT9 _ (List.mem_of_getElem? (i := 93) rfl)) rfl
theorem kw1748 : (Cond.code yX10_does cX10_does 2 (some .int)) ∈ G := mG (sgT9 _ (List.mem_of_getElem? (i := 94) rfl)) rfl
theorem kw1749 : (Cond.methodLink RX10 409 yX10_paper) ∈ G := mG (sgT9 _ (List.mem_of_getElem? (i := 95) rfl)) rfl
theorem kw1750 : (Cond.methodLink RX10 411 yX10_kind) ∈ G := mG (sgT9 _ (List.mem_of_getElem? (i := 96) rfl)) rfl
theorem kw1751 : (Cond.methodLink RX10 413 yX10_heavy) ∈ G := mG (sgT9 _ (List.mem_of_getElem? (i := 97) rfl)) rfl
theorem kw1752 : (Cond.methodLink RX10 415 yX10_place) ∈ G := mG (sgT9 _ (List.mem_of_getElem? (i := 98) rfl)) rfl
theorem kw1753 : (Cond.methodLink RX10 417 yX10_rule) ∈ G := mG (sgT9 _ (List.mem_of_getElem? (i := 99) rfl)) rfl
theorem kw1754 : (Cond.methodLink RX10 419 yX10_free) ∈ G := mG (sgT9 _ (List.mem_of_getElem? (i := 100) rfl)) rfl
theorem kw1755 : (Cond.methodLink RX10 421 yX10_limit) ∈ G := mG (sgT9 _ (List.mem_of_getElem? (i := 101) rfl)) rfl
theorem kw1756 : (Cond.methodLink RX10 423 yX10_ties) ∈ G := mG (sgT9 _ (List.mem_of_getElem? (i := 102) rfl)) rfl
theorem kw1757 : (Cond.methodLink RL 182 yX10_image) ∈ G := mG (sgT9 _ (List.mem_of_getElem? (i := 103) rfl)) rfl
theorem kw1758 : (Cond.instanceMethod yX10_image) ∈ G := mG (sgT9 _ (List.mem_of_getElem? (i := 104) rfl)) rfl
theorem kw1759 : (Cond.selects RX10 yX10_image yX10_image) ∈ G := mG (sgT9 _ (List.mem_of_getElem? (i := 105) rfl)) rfl
theorem kw1760 : (Cond.code yX10_image cX10_image 1 (some .int)) ∈ G := mG (sgT9 _ (List.mem_of_getElem? (i := 106) rfl)) rfl
theorem kw1761 : (Cond.methodLink RL 186 yX10_on) ∈ G := mG (sgT9 _ (List.mem_of_getElem? (i := 107) rfl)) rfl
theorem kw1762 : (Cond.instanceMethod yX10_on) ∈ G := mG (sgT9 _ (List.mem_of_getElem? (i := 108) rfl)) rfl
theorem kw1763 : (Cond.selects RX10 yX10_on yX10_on) ∈ G := mG (sgT9 _ (List.mem_of_getElem? (i := 109) rfl)) rfl
theorem kw1764 : (Cond.code yX10_on cX10_on 1 (some .int)) ∈ G := mG (sgT9 _ (List.mem_of_getElem? (i := 110) rfl)) rfl
theorem kw1765 : (Cond.methodLink RL 190 yX10_count) ∈ G := mG (sgT9 _ (List.mem_of_getElem? (i := 111) rfl)) rfl
theorem kw1766 : (Cond.instanceMethod yX10_count) ∈ G := mG (sgT9 _ (List.mem_of_getElem? (i := 112) rfl)) rfl
theorem kw1767 : (Cond.selects RX10 yX10_count yX10_count) ∈ G := mG (sgT9 _ (List.mem_of_getElem? (i := 113) rfl)) rfl
theorem kw1768 : (Cond.code yX10_count cX10_count 2 (some .int)) ∈ G := mG (sgT9 _ (List.mem_of_getElem? (i := 114) rfl)) rfl
theorem kw1769 : (Cond.methodLink RX10 438 yX10_hindered) ∈ G := mG (sgT9 _ (List.mem_of_getElem? (i := 115) rfl)) rfl
theorem kw1770 : (Cond.instanceMethod yX10_hindered) ∈ G := mG (sgT9 _ (List.mem_of_getElem? (i := 117) rfl)) rfl
theorem kw1771 : (Cond.code yX10_hindered cX10_hindered 3 (some .int)) ∈ G := mG (sgT9 _ (List.mem_of_getElem? (i := 118) rfl)) rfl
theorem kw1772 : (Cond.constantLong RL 160 (4294967295 : Int64)) ∈ G := mG (sgT9 _ (List.mem_of_getElem? (i := 119) rfl)) rfl
theorem kw1773 : (Cond.sameMethod RJ5 RJ5 "setLength" "(I)V") ∈ G := mG (sgT9 _ (List.mem_of_getElem? (i := 120) rfl)) rfl
theorem kw1774 : (Cond.sameMethod RJ5 RJ5 "ensureCapacityInternal" "(I)V") ∈ G := mG (sgT9 _ (List.mem_of_getElem? (i := 121) rfl)) rfl
theorem kw1775 : (Cond.sameMethod RJ5 RJ5 "newCapacity" "(I)I") ∈ G := mG (sgT9 _ (List.mem_of_getElem? (i := 122) rfl)) rfl
theorem kw1776 : (Cond.sameMethod RJ5 RJ5 "append" "(I)Ljava/lang/AbstractStringBuilder;") ∈ G := mG (sgT9 _ (List.mem_of_getElem? (i := 123) rfl)) rfl
theorem kw1777 : (Cond.sameMethod RJ5 RJ5 "append" "(C)Ljava/lang/AbstractStringBuilder;") ∈ G := mG (sgT9 _ (List.mem_of_getElem? (i := 124) rfl)) rfl
theorem kw1778 : (Cond.sameMethod RJ5 RJ5 "inflate" "()V") ∈ G := mG (sgT9 _ (List.mem_of_getElem? (i := 125) rfl)) rfl
theorem kw1779 : (Cond.sameMethod RJ5 RJ5 "append" "(Ljava/lang/String;)Ljava/lang/AbstractStringBuilder;") ∈ G := mG (sgT9 _ (List.mem_of_getElem? (i := 126) rfl)) rfl
theorem kw1780 : (Cond.sameMethod RJ5 RJ5 "appendNull" "()Ljava/lang/AbstractStringBuilder;") ∈ G := mG (sgT9 _ (List.mem_of_getElem? (i := 127) rfl)) rfl
theorem kw1781 : (Cond.sameMethod RJ5 RJ5 "putStringAt" "(ILjava/lang/String;)V") ∈ G := mG (sgT9 _ (List.mem_of_getElem? (i := 128) rfl)) rfl
theorem kw1782 : (Cond.sameMethod RJ5 RJ5 "inflateIfNeededFor" "(Ljava/lang/String;)V") ∈ G := mG (sgT9 _ (List.mem_of_getElem? (i := 129) rfl)) rfl
theorem kw1783 : (Cond.sameMethod RJ5 RJ5 "length" "()I") ∈ G := mG (sgT9 _ (List.mem_of_getElem? (i := 130) rfl)) rfl
theorem kw1784 : (Cond.sameMethod RJ5 RJ5 "charAt" "(I)C") ∈ G := mG (sgT9 _ (List.mem_of_getElem? (i := 131) rfl)) rfl
theorem kw1785 : (Cond.fieldLink RJ0 9 RJ0 "value" "[B") ∈ G := mG (sgT9 _ (List.mem_of_getElem? (i := 132) rfl)) rfl
theorem kw1786 : (Cond.fieldLink RJ0 15 RJ0 "coder" "B") ∈ G := mG (sgT9 _ (List.mem_of_getElem? (i := 133) rfl)) rfl
theorem kw1787 : (Cond.selects RX9 yX9_refuse yX9_refuse) ∈ G := mG (List.mem_append_left _ (List.mem_map_of_mem (f := fun q : MethodName × Nat => Cond.selects q.1.cls q.1 q.1) (lwsub0 _ (List.mem_of_getElem? (i := 0) rfl)))) rfl
theorem kw1788 : (Cond.selects RX3 yX3_readWord yX3_readWord) ∈ G := mG (List.mem_append_left _ (List.mem_map_of_mem (f := fun q : MethodName × Nat => Cond.selects q.1.cls q.1 q.1) (lwsub0 _ (List.mem_of_getElem? (i := 1) rfl)))) rfl
theorem kw1789 : (Cond.selects RX3 yX3_alikeWith yX3_alikeWith) ∈ G := mG (List.mem_append_left _ (List.mem_map_of_mem (f := fun q : MethodName × Nat => Cond.selects q.1.cls q.1 q.1) (lwsub0 _ (List.mem_of_getElem? (i := 2) rfl)))) rfl
theorem kw1790 : (Cond.selects RX3 yX3_signAt yX3_signAt) ∈ G := mG (List.mem_append_left _ (List.mem_map_of_mem (f := fun q : MethodName × Nat => Cond.selects q.1.cls q.1 q.1) (lwsub0 _ (List.mem_of_getElem? (i := 3) rfl)))) rfl
theorem kw1791 : (Cond.selects RX3 yX3_readNumbers yX3_readNumbers) ∈ G := mG (List.mem_append_left _ (List.mem_map_of_mem (f := fun q : MethodName × Nat => Cond.selects q.1.cls q.1 q.1) (lwsub0 _ (List.mem_of_getElem? (i := 4) rfl)))) rfl
theorem kw1792 : (Cond.selects RX3 yX3_readEnd yX3_readEnd) ∈ G := mG (List.mem_append_left _ (List.mem_map_of_mem (f := fun q : MethodName × Nat => Cond.selects q.1.cls q.1 q.1) (lwsub0 _ (List.mem_of_getElem? (i := 5) rfl)))) rfl
theorem kw1793 : (Cond.selects RX9 yX9_takeAll yX9_takeAll) ∈ G := mG (List.mem_append_left _ (List.mem_map_of_mem (f := fun q : MethodName × Nat => Cond.selects q.1.cls q.1 q.1) (lwsub0 _ (List.mem_of_getElem? (i := 6) rfl)))) rfl
theorem kw1794 : (Cond.selects RX6 yX6_swap yX6_swap) ∈ G := mG (List.mem_append_left _ (List.mem_map_of_mem (f := fun q : MethodName × Nat => Cond.selects q.1.cls q.1 q.1) (lwsub0 _ (List.mem_of_getElem? (i := 7) rfl)))) rfl
theorem kw1795 : (Cond.selects RX6 yX6_isThere yX6_isThere) ∈ G := mG (List.mem_append_left _ (List.mem_map_of_mem (f := fun q : MethodName × Nat => Cond.selects q.1.cls q.1 q.1) (lwsub0 _ (List.mem_of_getElem? (i := 8) rfl)))) rfl
theorem kw1796 : (Cond.selects RX9 yX9_counted yX9_counted) ∈ G := mG (List.mem_append_left _ (List.mem_map_of_mem (f := fun q : MethodName × Nat => Cond.selects q.1.cls q.1 q.1) (lwsub0 _ (List.mem_of_getElem? (i := 9) rfl)))) rfl
theorem kw1797 : (Cond.selects RX5 yX5_meetOvers yX5_meetOvers) ∈ G := mG (List.mem_append_left _ (List.mem_map_of_mem (f := fun q : MethodName × Nat => Cond.selects q.1.cls q.1 q.1) (lwsub0 _ (List.mem_of_getElem? (i := 10) rfl)))) rfl
theorem kw1798 : (Cond.selects RX5 yX5_meetsAllPairs yX5_meetsAllPairs) ∈ G := mG (List.mem_append_left _ (List.mem_map_of_mem (f := fun q : MethodName × Nat => Cond.selects q.1.cls q.1 q.1) (lwsub0 _ (List.mem_of_getElem? (i := 11) rfl)))) rfl
theorem kw1799 : (Cond.selects RX9 yX9_whyNoLineValue yX9_whyNoLineValue) ∈ G := mG (List.mem_append_left _ (List.mem_map_of_mem (f := fun q : MethodName × Nat => Cond.selects q.1.cls q.1 q.1) (lwsub0 _ (List.mem_of_getElem? (i := 12) rfl)))) rfl
theorem kw1800 : (Cond.selects RX9 yX9_refuseLong yX9_refuseLong) ∈ G := mG (List.mem_append_left _ (List.mem_map_of_mem (f := fun q : MethodName × Nat => Cond.selects q.1.cls q.1 q.1) (lwsub0 _ (List.mem_of_getElem? (i := 13) rfl)))) rfl
theorem kw1801 : (Cond.selects RX4 yX4_standOneByOne yX4_standOneByOne) ∈ G := mG (List.mem_append_left _ (List.mem_map_of_mem (f := fun q : MethodName × Nat => Cond.selects q.1.cls q.1 q.1) (lwsub0 _ (List.mem_of_getElem? (i := 14) rfl)))) rfl
theorem kw1802 : (Cond.selects RX4 yX4_firstOf yX4_firstOf) ∈ G := mG (List.mem_append_left _ (List.mem_map_of_mem (f := fun q : MethodName × Nat => Cond.selects q.1.cls q.1 q.1) (lwsub0 _ (List.mem_of_getElem? (i := 15) rfl)))) rfl
theorem kw1803 : (Cond.selects RX4 yX4_isAhead yX4_isAhead) ∈ G := mG (List.mem_append_left _ (List.mem_map_of_mem (f := fun q : MethodName × Nat => Cond.selects q.1.cls q.1 q.1) (lwsub1 _ (List.mem_of_getElem? (i := 0) rfl)))) rfl
theorem kw1804 : (Cond.selects RX4 yX4_standBehind yX4_standBehind) ∈ G := mG (List.mem_append_left _ (List.mem_map_of_mem (f := fun q : MethodName × Nat => Cond.selects q.1.cls q.1 q.1) (lwsub1 _ (List.mem_of_getElem? (i := 1) rfl)))) rfl
theorem kw1805 : (Cond.selects RX4 yX4_standByPlaces yX4_standByPlaces) ∈ G := mG (List.mem_append_left _ (List.mem_map_of_mem (f := fun q : MethodName × Nat => Cond.selects q.1.cls q.1 q.1) (lwsub1 _ (List.mem_of_getElem? (i := 2) rfl)))) rfl
theorem kw1806 : (Cond.selects RX4 yX4_mergeAll yX4_mergeAll) ∈ G := mG (List.mem_append_left _ (List.mem_map_of_mem (f := fun q : MethodName × Nat => Cond.selects q.1.cls q.1 q.1) (lwsub1 _ (List.mem_of_getElem? (i := 3) rfl)))) rfl
theorem kw1807 : (Cond.selects RX4 yX4_measure yX4_measure) ∈ G := mG (List.mem_append_left _ (List.mem_map_of_mem (f := fun q : MethodName × Nat => Cond.selects q.1.cls q.1 q.1) (lwsub1 _ (List.mem_of_getElem? (i := 4) rfl)))) rfl
theorem kw1808 : (Cond.selects RX4 yX4_numberTop yX4_numberTop) ∈ G := mG (List.mem_append_left _ (List.mem_map_of_mem (f := fun q : MethodName × Nat => Cond.selects q.1.cls q.1 q.1) (lwsub1 _ (List.mem_of_getElem? (i := 5) rfl)))) rfl
theorem kw1809 : (Cond.selects RX4 yX4_numberBottom yX4_numberBottom) ∈ G := mG (List.mem_append_left _ (List.mem_map_of_mem (f := fun q : MethodName × Nat => Cond.selects q.1.cls q.1 q.1) (lwsub1 _ (List.mem_of_getElem? (i := 6) rfl)))) rfl
theorem kw1810 : (Cond.selects RX4 yX4_firstToMerge yX4_firstToMerge) ∈ G := mG (List.mem_append_left _ (List.mem_map_of_mem (f := fun q : MethodName × Nat => Cond.selects q.1.cls q.1 q.1) (lwsub1 _ (List.mem_of_getElem? (i := 7) rfl)))) rfl
theorem kw1811 : (Cond.selects RX4 yX4_mergeWithNext yX4_mergeWithNext) ∈ G := mG (List.mem_append_left _ (List.mem_map_of_mem (f := fun q : MethodName × Nat => Cond.selects q.1.cls q.1 q.1) (lwsub1 _ (List.mem_of_getElem? (i := 8) rfl)))) rfl
theorem kw1812 : (Cond.selects RX4 yX4_layAll yX4_layAll) ∈ G := mG (List.mem_append_left _ (List.mem_map_of_mem (f := fun q : MethodName × Nat => Cond.selects q.1.cls q.1 q.1) (lwsub1 _ (List.mem_of_getElem? (i := 9) rfl)))) rfl
theorem kw1813 : (Cond.selects RX4 yX4_layByMeans yX4_layByMeans) ∈ G := mG (List.mem_append_left _ (List.mem_map_of_mem (f := fun q : MethodName × Nat => Cond.selects q.1.cls q.1 q.1) (lwsub1 _ (List.mem_of_getElem? (i := 10) rfl)))) rfl
theorem kw1814 : (Cond.selects RX8 yX8_addChange yX8_addChange) ∈ G := mG (List.mem_append_left _ (List.mem_map_of_mem (f := fun q : MethodName × Nat => Cond.selects q.1.cls q.1 q.1) (lwsub1 _ (List.mem_of_getElem? (i := 11) rfl)))) rfl
theorem kw1815 : (Cond.selects RX9 yX9_whyNoValue yX9_whyNoValue) ∈ G := mG (List.mem_append_left _ (List.mem_map_of_mem (f := fun q : MethodName × Nat => Cond.selects q.1.cls q.1 q.1) (lwsub1 _ (List.mem_of_getElem? (i := 12) rfl)))) rfl
theorem kw1816 : (Cond.selects RX0 yX0_layHalfways yX0_layHalfways) ∈ G := mG (List.mem_append_left _ (List.mem_map_of_mem (f := fun q : MethodName × Nat => Cond.selects q.1.cls q.1 q.1) (lwsub1 _ (List.mem_of_getElem? (i := 13) rfl)))) rfl
theorem kw1817 : (Cond.selects RX0 yX0_fillSets yX0_fillSets) ∈ G := mG (List.mem_append_left _ (List.mem_map_of_mem (f := fun q : MethodName × Nat => Cond.selects q.1.cls q.1 q.1) (lwsub1 _ (List.mem_of_getElem? (i := 14) rfl)))) rfl
theorem kw1818 : (Cond.selects RX0 yX0_layLeastSquares yX0_layLeastSquares) ∈ G := mG (List.mem_append_left _ (List.mem_map_of_mem (f := fun q : MethodName × Nat => Cond.selects q.1.cls q.1 q.1) (lwsub1 _ (List.mem_of_getElem? (i := 15) rfl)))) rfl
theorem kw1819 : (Cond.selects RX0 yX0_leastByMean yX0_leastByMean) ∈ G := mG (List.mem_append_left _ (List.mem_map_of_mem (f := fun q : MethodName × Nat => Cond.selects q.1.cls q.1 q.1) (lwsub2 _ (List.mem_of_getElem? (i := 0) rfl)))) rfl
theorem kw1820 : (Cond.selects RX0 yX0_isLow yX0_isLow) ∈ G := mG (List.mem_append_left _ (List.mem_map_of_mem (f := fun q : MethodName × Nat => Cond.selects q.1.cls q.1 q.1) (lwsub2 _ (List.mem_of_getElem? (i := 1) rfl)))) rfl
theorem kw1821 : (Cond.selects RX0 yX0_layLeastAbsolutes yX0_layLeastAbsolutes) ∈ G := mG (List.mem_append_left _ (List.mem_map_of_mem (f := fun q : MethodName × Nat => Cond.selects q.1.cls q.1 q.1) (lwsub2 _ (List.mem_of_getElem? (i := 2) rfl)))) rfl
theorem kw1822 : (Cond.selects RX0 yX0_leastMarkAbove yX0_leastMarkAbove) ∈ G := mG (List.mem_append_left _ (List.mem_map_of_mem (f := fun q : MethodName × Nat => Cond.selects q.1.cls q.1 q.1) (lwsub2 _ (List.mem_of_getElem? (i := 3) rfl)))) rfl
theorem kw1823 : (Cond.selects RX0 yX0_cheapest yX0_cheapest) ∈ G := mG (List.mem_append_left _ (List.mem_map_of_mem (f := fun q : MethodName × Nat => Cond.selects q.1.cls q.1 q.1) (lwsub2 _ (List.mem_of_getElem? (i := 4) rfl)))) rfl
theorem kw1824 : (Cond.selects RX8 yX8_doesBind yX8_doesBind) ∈ G := mG (List.mem_append_left _ (List.mem_map_of_mem (f := fun q : MethodName × Nat => Cond.selects q.1.cls q.1 q.1) (lwsub2 _ (List.mem_of_getElem? (i := 5) rfl)))) rfl
theorem kw1825 : (Cond.selects RX9 yX9_leastRaw yX9_leastRaw) ∈ G := mG (List.mem_append_left _ (List.mem_map_of_mem (f := fun q : MethodName × Nat => Cond.selects q.1.cls q.1 q.1) (lwsub2 _ (List.mem_of_getElem? (i := 6) rfl)))) rfl
theorem kw1826 : (Cond.selects RX9 yX9_workLikely yX9_workLikely) ∈ G := mG (List.mem_append_left _ (List.mem_map_of_mem (f := fun q : MethodName × Nat => Cond.selects q.1.cls q.1 q.1) (lwsub2 _ (List.mem_of_getElem? (i := 7) rfl)))) rfl
theorem kw1827 : (Cond.selects RX9 yX9_sayPaper yX9_sayPaper) ∈ G := mG (List.mem_append_left _ (List.mem_map_of_mem (f := fun q : MethodName × Nat => Cond.selects q.1.cls q.1 q.1) (lwsub2 _ (List.mem_of_getElem? (i := 8) rfl)))) rfl
theorem kw1828 : (Cond.selects RX9 yX9_sayOthers yX9_sayOthers) ∈ G := mG (List.mem_append_left _ (List.mem_map_of_mem (f := fun q : MethodName × Nat => Cond.selects q.1.cls q.1 q.1) (lwsub2 _ (List.mem_of_getElem? (i := 9) rfl)))) rfl
theorem kw1829 : (Cond.selects RX9 yX9_kindsAsTold yX9_kindsAsTold) ∈ G := mG (List.mem_append_left _ (List.mem_map_of_mem (f := fun q : MethodName × Nat => Cond.selects q.1.cls q.1 q.1) (lwsub2 _ (List.mem_of_getElem? (i := 10) rfl)))) rfl
theorem kw1830 : (Cond.selects RX9 yX9_isAsTold yX9_isAsTold) ∈ G := mG (List.mem_append_left _ (List.mem_map_of_mem (f := fun q : MethodName × Nat => Cond.selects q.1.cls q.1 q.1) (lwsub2 _ (List.mem_of_getElem? (i := 11) rfl)))) rfl
theorem kw1831 : (Cond.selects RX9 yX9_figuresAsTold yX9_figuresAsTold) ∈ G := mG (List.mem_append_left _ (List.mem_map_of_mem (f := fun q : MethodName × Nat => Cond.selects q.1.cls q.1 q.1) (lwsub2 _ (List.mem_of_getElem? (i := 12) rfl)))) rfl
theorem kw1832 : (Cond.selects RX9 yX9_drawAll yX9_drawAll) ∈ G := mG (List.mem_append_left _ (List.mem_map_of_mem (f := fun q : MethodName × Nat => Cond.selects q.1.cls q.1 q.1) (lwsub2 _ (List.mem_of_getElem? (i := 13) rfl)))) rfl
theorem kw1833 : (Cond.selects RX9 yX9_pairsIn yX9_pairsIn) ∈ G := mG (List.mem_append_left _ (List.mem_map_of_mem (f := fun q : MethodName × Nat => Cond.selects q.1.cls q.1 q.1) (lwsub2 _ (List.mem_of_getElem? (i := 14) rfl)))) rfl
theorem kw1834 : (Cond.selects RX9 yX9_whyNoShelf yX9_whyNoShelf) ∈ G := mG (List.mem_append_left _ (List.mem_map_of_mem (f := fun q : MethodName × Nat => Cond.selects q.1.cls q.1 q.1) (lwsub2 _ (List.mem_of_getElem? (i := 15) rfl)))) rfl
theorem kw1835 : (Cond.selects RX10 yX10_no yX10_no) ∈ G := mG (List.mem_append_left _ (List.mem_map_of_mem (f := fun q : MethodName × Nat => Cond.selects q.1.cls q.1 q.1) (lwsub3 _ (List.mem_of_getElem? (i := 0) rfl)))) rfl
theorem kw1836 : (Cond.selects RX10 yX10_isPaper yX10_isPaper) ∈ G := mG (List.mem_append_left _ (List.mem_map_of_mem (f := fun q : MethodName × Nat => Cond.selects q.1.cls q.1 q.1) (lwsub3 _ (List.mem_of_getElem? (i := 1) rfl)))) rfl
theorem kw1837 : (Cond.selects RX10 yX10_becomes yX10_becomes) ∈ G := mG (List.mem_append_left _ (List.mem_map_of_mem (f := fun q : MethodName × Nat => Cond.selects q.1.cls q.1 q.1) (lwsub3 _ (List.mem_of_getElem? (i := 2) rfl)))) rfl
theorem kw1838 : (Cond.selects RX10 yX10_isUnder yX10_isUnder) ∈ G := mG (List.mem_append_left _ (List.mem_map_of_mem (f := fun q : MethodName × Nat => Cond.selects q.1.cls q.1 q.1) (lwsub3 _ (List.mem_of_getElem? (i := 3) rfl)))) rfl
theorem kw1839 : (Cond.selects RX10 yX10_allRules yX10_allRules) ∈ G := mG (List.mem_append_left _ (List.mem_map_of_mem (f := fun q : MethodName × Nat => Cond.selects q.1.cls q.1 q.1) (lwsub3 _ (List.mem_of_getElem? (i := 4) rfl)))) rfl
theorem kw1840 : (Cond.selects RX10 yX10_reach yX10_reach) ∈ G := mG (List.mem_append_left _ (List.mem_map_of_mem (f := fun q : MethodName × Nat => Cond.selects q.1.cls q.1 q.1) (lwsub3 _ (List.mem_of_getElem? (i := 5) rfl)))) rfl
theorem kw1841 : (Cond.selects RX10 yX10_isRule yX10_isRule) ∈ G := mG (List.mem_append_left _ (List.mem_map_of_mem (f := fun q : MethodName × Nat => Cond.selects q.1.cls q.1 q.1) (lwsub3 _ (List.mem_of_getElem? (i := 6) rfl)))) rfl
theorem kw1842 : (Cond.selects RX10 yX10_mark yX10_mark) ∈ G := mG (List.mem_append_left _ (List.mem_map_of_mem (f := fun q : MethodName × Nat => Cond.selects q.1.cls q.1 q.1) (lwsub3 _ (List.mem_of_getElem? (i := 7) rfl)))) rfl
theorem kw1843 : (Cond.selects RX10 yX10_weight yX10_weight) ∈ G := mG (List.mem_append_left _ (List.mem_map_of_mem (f := fun q : MethodName × Nat => Cond.selects q.1.cls q.1 q.1) (lwsub3 _ (List.mem_of_getElem? (i := 8) rfl)))) rfl
theorem kw1844 : (Cond.selects RX10 yX10_gradeOf yX10_gradeOf) ∈ G := mG (List.mem_append_left _ (List.mem_map_of_mem (f := fun q : MethodName × Nat => Cond.selects q.1.cls q.1 q.1) (lwsub3 _ (List.mem_of_getElem? (i := 9) rfl)))) rfl
theorem kw1845 : (Cond.selects RX10 yX10_isHindered yX10_isHindered) ∈ G := mG (List.mem_append_left _ (List.mem_map_of_mem (f := fun q : MethodName × Nat => Cond.selects q.1.cls q.1 q.1) (lwsub3 _ (List.mem_of_getElem? (i := 10) rfl)))) rfl
theorem kw1846 : (Cond.selects RX10 yX10_pairMany yX10_pairMany) ∈ G := mG (List.mem_append_left _ (List.mem_map_of_mem (f := fun q : MethodName × Nat => Cond.selects q.1.cls q.1 q.1) (lwsub3 _ (List.mem_of_getElem? (i := 11) rfl)))) rfl
theorem kw1847 : (Cond.selects RX10 yX10_isPair yX10_isPair) ∈ G := mG (List.mem_append_left _ (List.mem_map_of_mem (f := fun q : MethodName × Nat => Cond.selects q.1.cls q.1 q.1) (lwsub3 _ (List.mem_of_getElem? (i := 12) rfl)))) rfl
theorem kw1848 : (Cond.selects RX10 yX10_covers yX10_covers) ∈ G := mG (List.mem_append_left _ (List.mem_map_of_mem (f := fun q : MethodName × Nat => Cond.selects q.1.cls q.1 q.1) (lwsub3 _ (List.mem_of_getElem? (i := 13) rfl)))) rfl
theorem kw1849 : (Cond.selects RX10 yX10_far yX10_far) ∈ G := mG (List.mem_append_left _ (List.mem_map_of_mem (f := fun q : MethodName × Nat => Cond.selects q.1.cls q.1 q.1) (lwsub3 _ (List.mem_of_getElem? (i := 14) rfl)))) rfl
theorem kw1850 : (Cond.selects RX10 yX10_lines yX10_lines) ∈ G := mG (List.mem_append_left _ (List.mem_map_of_mem (f := fun q : MethodName × Nat => Cond.selects q.1.cls q.1 q.1) (lwsub3 _ (List.mem_of_getElem? (i := 15) rfl)))) rfl
theorem kw1851 : (Cond.selects RX10 yX10_begins yX10_begins) ∈ G := mG (List.mem_append_left _ (List.mem_map_of_mem (f := fun q : MethodName × Nat => Cond.selects q.1.cls q.1 q.1) (lwsub4 _ (List.mem_of_getElem? (i := 0) rfl)))) rfl
theorem kw1852 : (Cond.selects RX10 yX10_isAhead yX10_isAhead) ∈ G := mG (List.mem_append_left _ (List.mem_map_of_mem (f := fun q : MethodName × Nat => Cond.selects q.1.cls q.1 q.1) (lwsub4 _ (List.mem_of_getElem? (i := 1) rfl)))) rfl
theorem kw1853 : (Cond.selects RX10 yX10_ofPlace yX10_ofPlace) ∈ G := mG (List.mem_append_left _ (List.mem_map_of_mem (f := fun q : MethodName × Nat => Cond.selects q.1.cls q.1 q.1) (lwsub4 _ (List.mem_of_getElem? (i := 2) rfl)))) rfl
theorem kw1854 : (Cond.selects RX10 yX10_firstWrong yX10_firstWrong) ∈ G := mG (List.mem_append_left _ (List.mem_map_of_mem (f := fun q : MethodName × Nat => Cond.selects q.1.cls q.1 q.1) (lwsub4 _ (List.mem_of_getElem? (i := 3) rfl)))) rfl
theorem kw1855 : (Cond.selects RX10 yX10_number yX10_number) ∈ G := mG (List.mem_append_left _ (List.mem_map_of_mem (f := fun q : MethodName × Nat => Cond.selects q.1.cls q.1 q.1) (lwsub4 _ (List.mem_of_getElem? (i := 4) rfl)))) rfl
theorem kw1856 : (Cond.selects RX10 yX10_sumOf yX10_sumOf) ∈ G := mG (List.mem_append_left _ (List.mem_map_of_mem (f := fun q : MethodName × Nat => Cond.selects q.1.cls q.1 q.1) (lwsub4 _ (List.mem_of_getElem? (i := 5) rfl)))) rfl
theorem kw1857 : (Cond.selects RX10 yX10_middleOf yX10_middleOf) ∈ G := mG (List.mem_append_left _ (List.mem_map_of_mem (f := fun q : MethodName × Nat => Cond.selects q.1.cls q.1 q.1) (lwsub4 _ (List.mem_of_getElem? (i := 6) rfl)))) rfl
theorem kw1858 : (Cond.selects RX10 yX10_weightOf yX10_weightOf) ∈ G := mG (List.mem_append_left _ (List.mem_map_of_mem (f := fun q : MethodName × Nat => Cond.selects q.1.cls q.1 q.1) (lwsub4 _ (List.mem_of_getElem? (i := 7) rfl)))) rfl
theorem kw1859 : (Cond.selects RX10 yX10_weightUpTo yX10_weightUpTo) ∈ G := mG (List.mem_append_left _ (List.mem_map_of_mem (f := fun q : MethodName × Nat => Cond.selects q.1.cls q.1 q.1) (lwsub4 _ (List.mem_of_getElem? (i := 8) rfl)))) rfl
theorem kw1860 : (Cond.selects RX10 yX10_lineValue yX10_lineValue) ∈ G := mG (List.mem_append_left _ (List.mem_map_of_mem (f := fun q : MethodName × Nat => Cond.selects q.1.cls q.1 q.1) (lwsub4 _ (List.mem_of_getElem? (i := 9) rfl)))) rfl
theorem kw1861 : (Cond.selects RX10 yX10_blockOf yX10_blockOf) ∈ G := mG (List.mem_append_left _ (List.mem_map_of_mem (f := fun q : MethodName × Nat => Cond.selects q.1.cls q.1 q.1) (lwsub4 _ (List.mem_of_getElem? (i := 10) rfl)))) rfl
theorem kw1862 : (Cond.selects RX10 yX10_fraction yX10_fraction) ∈ G := mG (List.mem_append_left _ (List.mem_map_of_mem (f := fun q : MethodName × Nat => Cond.selects q.1.cls q.1 q.1) (lwsub4 _ (List.mem_of_getElem? (i := 11) rfl)))) rfl
theorem kw1863 : (Cond.selects RX10 yX10_add yX10_add) ∈ G := mG (List.mem_append_left _ (List.mem_map_of_mem (f := fun q : MethodName × Nat => Cond.selects q.1.cls q.1 q.1) (lwsub4 _ (List.mem_of_getElem? (i := 12) rfl)))) rfl
theorem kw1864 : (Cond.selects RX10 yX10_part yX10_part) ∈ G := mG (List.mem_append_left _ (List.mem_map_of_mem (f := fun q : MethodName × Nat => Cond.selects q.1.cls q.1 q.1) (lwsub4 _ (List.mem_of_getElem? (i := 13) rfl)))) rfl
theorem kw1865 : (Cond.selects RX10 yX10_lineSquares yX10_lineSquares) ∈ G := mG (List.mem_append_left _ (List.mem_map_of_mem (f := fun q : MethodName × Nat => Cond.selects q.1.cls q.1 q.1) (lwsub4 _ (List.mem_of_getElem? (i := 14) rfl)))) rfl
theorem kw1866 : (Cond.selects RX10 yX10_addSquares yX10_addSquares) ∈ G := mG (List.mem_append_left _ (List.mem_map_of_mem (f := fun q : MethodName × Nat => Cond.selects q.1.cls q.1 q.1) (lwsub4 _ (List.mem_of_getElem? (i := 15) rfl)))) rfl
theorem kw1867 : (Cond.selects RX10 yX10_lineSums yX10_lineSums) ∈ G := mG (List.mem_append_left _ (List.mem_map_of_mem (f := fun q : MethodName × Nat => Cond.selects q.1.cls q.1 q.1) (lwsub5 _ (List.mem_of_getElem? (i := 0) rfl)))) rfl
theorem kw1868 : (Cond.selects RX10 yX10_values yX10_values) ∈ G := mG (List.mem_append_left _ (List.mem_map_of_mem (f := fun q : MethodName × Nat => Cond.selects q.1.cls q.1 q.1) (lwsub5 _ (List.mem_of_getElem? (i := 1) rfl)))) rfl
theorem kw1869 : (Cond.selects RX10 yX10_leastSquares yX10_leastSquares) ∈ G := mG (List.mem_append_left _ (List.mem_map_of_mem (f := fun q : MethodName × Nat => Cond.selects q.1.cls q.1 q.1) (lwsub5 _ (List.mem_of_getElem? (i := 2) rfl)))) rfl
theorem kw1870 : (Cond.selects RX10 yX10_isLow yX10_isLow) ∈ G := mG (List.mem_append_left _ (List.mem_map_of_mem (f := fun q : MethodName × Nat => Cond.selects q.1.cls q.1 q.1) (lwsub5 _ (List.mem_of_getElem? (i := 3) rfl)))) rfl
theorem kw1871 : (Cond.selects RX10 yX10_gets yX10_gets) ∈ G := mG (List.mem_append_left _ (List.mem_map_of_mem (f := fun q : MethodName × Nat => Cond.selects q.1.cls q.1 q.1) (lwsub5 _ (List.mem_of_getElem? (i := 4) rfl)))) rfl
theorem kw1872 : (Cond.selects RX10 yX10_leastSums yX10_leastSums) ∈ G := mG (List.mem_append_left _ (List.mem_map_of_mem (f := fun q : MethodName × Nat => Cond.selects q.1.cls q.1 q.1) (lwsub5 _ (List.mem_of_getElem? (i := 5) rfl)))) rfl
theorem kw1873 : (Cond.selects RX10 yX10_isMark yX10_isMark) ∈ G := mG (List.mem_append_left _ (List.mem_map_of_mem (f := fun q : MethodName × Nat => Cond.selects q.1.cls q.1 q.1) (lwsub5 _ (List.mem_of_getElem? (i := 6) rfl)))) rfl
theorem kw1874 : (Cond.selects RX10 yX10_above yX10_above) ∈ G := mG (List.mem_append_left _ (List.mem_map_of_mem (f := fun q : MethodName × Nat => Cond.selects q.1.cls q.1 q.1) (lwsub5 _ (List.mem_of_getElem? (i := 7) rfl)))) rfl
theorem kw1875 : (Cond.selects RX10 yX10_costOf yX10_costOf) ∈ G := mG (List.mem_append_left _ (List.mem_map_of_mem (f := fun q : MethodName × Nat => Cond.selects q.1.cls q.1 q.1) (lwsub5 _ (List.mem_of_getElem? (i := 8) rfl)))) rfl
theorem kw1876 : (Cond.selects RX10 yX10_leastWorst yX10_leastWorst) ∈ G := mG (List.mem_append_left _ (List.mem_map_of_mem (f := fun q : MethodName × Nat => Cond.selects q.1.cls q.1 q.1) (lwsub5 _ (List.mem_of_getElem? (i := 9) rfl)))) rfl
theorem kw1877 : (Cond.selects RX10 yX10_gradeBy yX10_gradeBy) ∈ G := mG (List.mem_append_left _ (List.mem_map_of_mem (f := fun q : MethodName × Nat => Cond.selects q.1.cls q.1 q.1) (lwsub5 _ (List.mem_of_getElem? (i := 10) rfl)))) rfl
theorem kw1878 : (Cond.selects RX10 yX10_changes yX10_changes) ∈ G := mG (List.mem_append_left _ (List.mem_map_of_mem (f := fun q : MethodName × Nat => Cond.selects q.1.cls q.1 q.1) (lwsub5 _ (List.mem_of_getElem? (i := 11) rfl)))) rfl
theorem kw1879 : (Cond.selects RX10 yX10_poolOf yX10_poolOf) ∈ G := mG (List.mem_append_left _ (List.mem_map_of_mem (f := fun q : MethodName × Nat => Cond.selects q.1.cls q.1 q.1) (lwsub5 _ (List.mem_of_getElem? (i := 12) rfl)))) rfl
theorem kw1880 : (Cond.selects RX10 yX10_isSame yX10_isSame) ∈ G := mG (List.mem_append_left _ (List.mem_map_of_mem (f := fun q : MethodName × Nat => Cond.selects q.1.cls q.1 q.1) (lwsub5 _ (List.mem_of_getElem? (i := 13) rfl)))) rfl
theorem kw1881 : (Cond.selects RX10 yX10_sayAll yX10_sayAll) ∈ G := mG (List.mem_append_left _ (List.mem_map_of_mem (f := fun q : MethodName × Nat => Cond.selects q.1.cls q.1 q.1) (lwsub5 _ (List.mem_of_getElem? (i := 14) rfl)))) rfl
theorem kw1882 : (Cond.selects RX10 yX10_sayNumber yX10_sayNumber) ∈ G := mG (List.mem_append_left _ (List.mem_map_of_mem (f := fun q : MethodName × Nat => Cond.selects q.1.cls q.1 q.1) (lwsub5 _ (List.mem_of_getElem? (i := 15) rfl)))) rfl
theorem kw1883 : (Cond.selects RX10 yX10_say yX10_say) ∈ G := mG (List.mem_append_left _ (List.mem_map_of_mem (f := fun q : MethodName × Nat => Cond.selects q.1.cls q.1 q.1) (lwsub6 _ (List.mem_of_getElem? (i := 0) rfl)))) rfl
theorem kw1884 : (Cond.selects RX10 yX10_sayOthers yX10_sayOthers) ∈ G := mG (List.mem_append_left _ (List.mem_map_of_mem (f := fun q : MethodName × Nat => Cond.selects q.1.cls q.1 q.1) (lwsub6 _ (List.mem_of_getElem? (i := 1) rfl)))) rfl
theorem kw1885 : (Cond.selects RX10 yX10_sayWord yX10_sayWord) ∈ G := mG (List.mem_append_left _ (List.mem_map_of_mem (f := fun q : MethodName × Nat => Cond.selects q.1.cls q.1 q.1) (lwsub6 _ (List.mem_of_getElem? (i := 2) rfl)))) rfl
theorem kw1886 : (Cond.selects RX10 yX10_isTold yX10_isTold) ∈ G := mG (List.mem_append_left _ (List.mem_map_of_mem (f := fun q : MethodName × Nat => Cond.selects q.1.cls q.1 q.1) (lwsub6 _ (List.mem_of_getElem? (i := 3) rfl)))) rfl
theorem kw1887 : (Cond.selects RX10 yX10_keeps yX10_keeps) ∈ G := mG (List.mem_append_left _ (List.mem_map_of_mem (f := fun q : MethodName × Nat => Cond.selects q.1.cls q.1 q.1) (lwsub6 _ (List.mem_of_getElem? (i := 4) rfl)))) rfl
theorem kw1888 : (Cond.selects RX10 yX10_inPools yX10_inPools) ∈ G := mG (List.mem_append_left _ (List.mem_map_of_mem (f := fun q : MethodName × Nat => Cond.selects q.1.cls q.1 q.1) (lwsub6 _ (List.mem_of_getElem? (i := 5) rfl)))) rfl
theorem kw1889 : (Cond.selects RX10 yX10_again yX10_again) ∈ G := mG (List.mem_append_left _ (List.mem_map_of_mem (f := fun q : MethodName × Nat => Cond.selects q.1.cls q.1 q.1) (lwsub6 _ (List.mem_of_getElem? (i := 6) rfl)))) rfl
theorem kw1890 : (Cond.selects RX10 yX10_isPlace yX10_isPlace) ∈ G := mG (List.mem_append_left _ (List.mem_map_of_mem (f := fun q : MethodName × Nat => Cond.selects q.1.cls q.1 q.1) (lwsub6 _ (List.mem_of_getElem? (i := 7) rfl)))) rfl
theorem kw1891 : (Cond.selects RX10 yX10_valueAt yX10_valueAt) ∈ G := mG (List.mem_append_left _ (List.mem_map_of_mem (f := fun q : MethodName × Nat => Cond.selects q.1.cls q.1 q.1) (lwsub6 _ (List.mem_of_getElem? (i := 8) rfl)))) rfl
theorem kw1892 : (Cond.selects RX10 yX10_tellsAll yX10_tellsAll) ∈ G := mG (List.mem_append_left _ (List.mem_map_of_mem (f := fun q : MethodName × Nat => Cond.selects q.1.cls q.1 q.1) (lwsub6 _ (List.mem_of_getElem? (i := 9) rfl)))) rfl
theorem kw1893 : (Cond.selects RX10 yX10_statement yX10_statement) ∈ G := mG (List.mem_append_left _ (List.mem_map_of_mem (f := fun q : MethodName × Nat => Cond.selects q.1.cls q.1 q.1) (lwsub6 _ (List.mem_of_getElem? (i := 10) rfl)))) rfl
theorem kw1894 : (Cond.selects RX10 yX10_readWord yX10_readWord) ∈ G := mG (List.mem_append_left _ (List.mem_map_of_mem (f := fun q : MethodName × Nat => Cond.selects q.1.cls q.1 q.1) (lwsub6 _ (List.mem_of_getElem? (i := 11) rfl)))) rfl
theorem kw1895 : (Cond.selects RX10 yX10_here yX10_here) ∈ G := mG (List.mem_append_left _ (List.mem_map_of_mem (f := fun q : MethodName × Nat => Cond.selects q.1.cls q.1 q.1) (lwsub6 _ (List.mem_of_getElem? (i := 12) rfl)))) rfl
theorem kw1896 : (Cond.selects RX10 yX10_readNumber yX10_readNumber) ∈ G := mG (List.mem_append_left _ (List.mem_map_of_mem (f := fun q : MethodName × Nat => Cond.selects q.1.cls q.1 q.1) (lwsub6 _ (List.mem_of_getElem? (i := 13) rfl)))) rfl
theorem kw1897 : (Cond.selects RX10 yX10_takes yX10_takes) ∈ G := mG (List.mem_append_left _ (List.mem_map_of_mem (f := fun q : MethodName × Nat => Cond.selects q.1.cls q.1 q.1) (lwsub6 _ (List.mem_of_getElem? (i := 14) rfl)))) rfl
theorem kw1898 : (Cond.selects RX10 yX10_isDigit yX10_isDigit) ∈ G := mG (List.mem_append_left _ (List.mem_map_of_mem (f := fun q : MethodName × Nat => Cond.selects q.1.cls q.1 q.1) (lwsub6 _ (List.mem_of_getElem? (i := 15) rfl)))) rfl
theorem kw1899 : (Cond.selects RX10 yX10_does yX10_does) ∈ G := mG (List.mem_append_left _ (List.mem_map_of_mem (f := fun q : MethodName × Nat => Cond.selects q.1.cls q.1 q.1) (lwsub7 _ (List.mem_of_getElem? (i := 0) rfl)))) rfl
theorem kw1900 : (Cond.selects RX10 yX10_hindered yX10_hindered) ∈ G := mG (List.mem_append_left _ (List.mem_map_of_mem (f := fun q : MethodName × Nat => Cond.selects q.1.cls q.1 q.1) (lwsub7 _ (List.mem_of_getElem? (i := 1) rfl)))) rfl
theorem layX0 : ∀ w ∈ u_ws RX0 TX0 5, w ∈ G := List.forall_mem_cons.mpr ⟨kw197, List.forall_mem_cons.mpr ⟨kw198, List.forall_mem_cons.mpr ⟨kw199, List.forall_mem_cons.mpr ⟨kw200, List.forall_mem_cons.mpr ⟨kw201, fun _ h => absurd h List.not_mem_nil⟩⟩⟩⟩⟩
theorem layX1 : ∀ w ∈ u_ws RX1 TX1 2, w ∈ G := List.forall_mem_cons.mpr ⟨kw148, List.forall_mem_cons.mpr ⟨kw149, fun _ h => absurd h List.not_mem_nil⟩⟩
theorem layX2 : ∀ w ∈ u_ws RX2 TX2 1, w ∈ G := List.forall_mem_cons.mpr ⟨kw46, fun _ h => absurd h List.not_mem_nil⟩
theorem layX3 : ∀ w ∈ u_ws RX3 TX3 5, w ∈ G := List.forall_mem_cons.mpr ⟨kw88, List.forall_mem_cons.mpr ⟨kw89, List.forall_mem_cons.mpr ⟨kw90, List.forall_mem_cons.mpr ⟨kw91, List.forall_mem_cons.mpr ⟨kw92, fun _ h => absurd h List.not_mem_nil⟩⟩⟩⟩⟩
theorem layX4 : ∀ w ∈ u_ws RX4 TX4 7, w ∈ G := List.forall_mem_cons.mpr ⟨kw175, List.forall_mem_cons.mpr ⟨kw176, List.forall_mem_cons.mpr ⟨kw177, List.forall_mem_cons.mpr ⟨kw178, List.forall_mem_cons.mpr ⟨kw179, List.forall_mem_cons.mpr ⟨kw180, List.forall_mem_cons.mpr ⟨kw181, fun _ h => absurd h List.not_mem_nil⟩⟩⟩⟩⟩⟩⟩
theorem layX5 : ∀ w ∈ u_ws RX5 TX5 5, w ∈ G := List.forall_mem_cons.mpr ⟨kw123, List.forall_mem_cons.mpr ⟨kw124, List.forall_mem_cons.mpr ⟨kw125, List.forall_mem_cons.mpr ⟨kw126, List.forall_mem_cons.mpr ⟨kw127, fun _ h => absurd h List.not_mem_nil⟩⟩⟩⟩⟩
theorem layX6 : ∀ w ∈ u_ws RX6 TX6 13, w ∈ G := List.forall_mem_cons.mpr ⟨kw62, List.forall_mem_cons.mpr ⟨kw63, List.forall_mem_cons.mpr ⟨kw64, List.forall_mem_cons.mpr ⟨kw65, List.forall_mem_cons.mpr ⟨kw66, List.forall_mem_cons.mpr ⟨kw67, List.forall_mem_cons.mpr ⟨kw68, List.forall_mem_cons.mpr ⟨kw69, List.forall_mem_cons.mpr ⟨kw70, List.forall_mem_cons.mpr ⟨kw71, List.forall_mem_cons.mpr ⟨kw72, List.forall_mem_cons.mpr ⟨kw73, List.forall_mem_cons.mpr ⟨kw74, fun _ h => absurd h List.not_mem_nil⟩⟩⟩⟩⟩⟩⟩⟩⟩⟩⟩⟩⟩
theorem layX7 : ∀ w ∈ u_ws RX7 TX7 3, w ∈ G := List.forall_mem_cons.mpr ⟨kw106, List.forall_mem_cons.mpr ⟨kw107, List.forall_mem_cons.mpr ⟨kw108, fun _ h => absurd h List.not_mem_nil⟩⟩⟩
theorem layX8 : ∀ w ∈ u_ws RX8 TX8 7, w ∈ G := List.forall_mem_cons.mpr ⟨kw158, List.forall_mem_cons.mpr ⟨kw159, List.forall_mem_cons.mpr ⟨kw160, List.forall_mem_cons.mpr ⟨kw161, List.forall_mem_cons.mpr ⟨kw162, List.forall_mem_cons.mpr ⟨kw163, List.forall_mem_cons.mpr ⟨kw164, fun _ h => absurd h List.not_mem_nil⟩⟩⟩⟩⟩⟩⟩
theorem layX9 : ∀ w ∈ u_ws RX9 TX9 14, w ∈ G := List.forall_mem_cons.mpr ⟨kw245, List.forall_mem_cons.mpr ⟨kw246, List.forall_mem_cons.mpr ⟨kw247, List.forall_mem_cons.mpr ⟨kw248, List.forall_mem_cons.mpr ⟨kw249, List.forall_mem_cons.mpr ⟨kw250, List.forall_mem_cons.mpr ⟨kw251, List.forall_mem_cons.mpr ⟨kw252, List.forall_mem_cons.mpr ⟨kw253, List.forall_mem_cons.mpr ⟨kw254, List.forall_mem_cons.mpr ⟨kw255, List.forall_mem_cons.mpr ⟨kw256, List.forall_mem_cons.mpr ⟨kw257, List.forall_mem_cons.mpr ⟨kw258, fun _ h => absurd h List.not_mem_nil⟩⟩⟩⟩⟩⟩⟩⟩⟩⟩⟩⟩⟩⟩
theorem layX10 : ∀ w ∈ u_ws RX10 TX10 36, w ∈ G := List.forall_mem_cons.mpr ⟨kw1313, List.forall_mem_cons.mpr ⟨kw1314, List.forall_mem_cons.mpr ⟨kw1315, List.forall_mem_cons.mpr ⟨kw1316, List.forall_mem_cons.mpr ⟨kw1317, List.forall_mem_cons.mpr ⟨kw1318, List.forall_mem_cons.mpr ⟨kw1319, List.forall_mem_cons.mpr ⟨kw1320, List.forall_mem_cons.mpr ⟨kw1321, List.forall_mem_cons.mpr ⟨kw1322, List.forall_mem_cons.mpr ⟨kw1323, List.forall_mem_cons.mpr ⟨kw1324, List.forall_mem_cons.mpr ⟨kw1325, List.forall_mem_cons.mpr ⟨kw1326, List.forall_mem_cons.mpr ⟨kw1327, List.forall_mem_cons.mpr ⟨kw1328, List.forall_mem_cons.mpr ⟨kw1329, List.forall_mem_cons.mpr ⟨kw1330, List.forall_mem_cons.mpr ⟨kw1331, List.forall_mem_cons.mpr ⟨kw1332, List.forall_mem_cons.mpr ⟨kw1333, List.forall_mem_cons.mpr ⟨kw1334, List.forall_mem_cons.mpr ⟨kw1335, List.forall_mem_cons.mpr ⟨kw1336, List.forall_mem_cons.mpr ⟨kw1337, List.forall_mem_cons.mpr ⟨kw1338, List.forall_mem_cons.mpr ⟨kw1339, List.forall_mem_cons.mpr ⟨kw1340, List.forall_mem_cons.mpr ⟨kw1341, List.forall_mem_cons.mpr ⟨kw1342, List.forall_mem_cons.mpr ⟨kw1343, List.forall_mem_cons.mpr ⟨kw1344, List.forall_mem_cons.mpr ⟨kw1345, List.forall_mem_cons.mpr ⟨kw1346, List.forall_mem_cons.mpr ⟨kw1347, List.forall_mem_cons.mpr ⟨kw1348, fun _ h => absurd h List.not_mem_nil⟩⟩⟩⟩⟩⟩⟩⟩⟩⟩⟩⟩⟩⟩⟩⟩⟩⟩⟩⟩⟩⟩⟩⟩⟩⟩⟩⟩⟩⟩⟩⟩⟩⟩⟩⟩
theorem layJ4 : ∀ w ∈ u_ws RJ4 TJ4 4, w ∈ G := List.forall_mem_cons.mpr ⟨kw225, List.forall_mem_cons.mpr ⟨kw226, List.forall_mem_cons.mpr ⟨kw227, List.forall_mem_cons.mpr ⟨kw228, fun _ h => absurd h List.not_mem_nil⟩⟩⟩⟩

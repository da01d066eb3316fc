/-! The words, by their places (by program). -/
set_option maxRecDepth 100000 in
theorem iw_1000 : (Jvm.Cond.code ({ cls := "java/lang/Math", name := "min", desc := "(JJ)J" } : Jvm.MethodName) prog_20_method_70_code (4 : Nat) (Option.some Jvm.ClassFile.FieldType.long)) ∈ ia_T := ia_in4 (List.mem_of_getElem? (i := 170) rfl) rfl
set_option maxRecDepth 100000 in
theorem iw_1001 : (Jvm.Cond.methodLink "EngagedTone$Exchange" (125 : Nat) ({ cls := "java/lang/Math", name := "max", desc := "(JJ)J" } : Jvm.MethodName)) ∈ ia_T := ia_in4 (List.mem_of_getElem? (i := 171) rfl) rfl
set_option maxRecDepth 100000 in
theorem iw_1002 : (Jvm.Cond.static ({ cls := "java/lang/Math", name := "max", desc := "(JJ)J" } : Jvm.MethodName)) ∈ ia_T := ia_in4 (List.mem_of_getElem? (i := 172) rfl) rfl
set_option maxRecDepth 100000 in
theorem iw_1003 : (Jvm.Cond.code ({ cls := "java/lang/Math", name := "max", desc := "(JJ)J" } : Jvm.MethodName) prog_20_method_66_code (4 : Nat) (Option.some Jvm.ClassFile.FieldType.long)) ∈ ia_T := ia_in4 (List.mem_of_getElem? (i := 173) rfl) rfl
set_option maxRecDepth 100000 in
theorem iw_1004 : (Jvm.Cond.methodLink "EngagedTone$Exchange" (83 : Nat) ({ cls := "EngagedTone$Exchange", name := "tryRing", desc := "(LEngagedTone$World;I)V" } : Jvm.MethodName)) ∈ ia_T := ia_in4 (List.mem_of_getElem? (i := 174) rfl) rfl
set_option maxRecDepth 100000 in
theorem iw_1006 : (Jvm.Cond.instanceMethod ({ cls := "EngagedTone$Exchange", name := "tryRing", desc := "(LEngagedTone$World;I)V" } : Jvm.MethodName)) ∈ ia_T := ia_in4 (List.mem_of_getElem? (i := 176) rfl) rfl
set_option maxRecDepth 100000 in
theorem iw_1007 : (Jvm.Cond.code ({ cls := "EngagedTone$Exchange", name := "tryRing", desc := "(LEngagedTone$World;I)V" } : Jvm.MethodName) prog_3_method_5_code (5 : Nat) (Option.none : Option Jvm.ClassFile.FieldType)) ∈ ia_T := ia_in4 (List.mem_of_getElem? (i := 177) rfl) rfl
set_option maxRecDepth 100000 in
theorem iw_1008 : (Jvm.Cond.methodLink "EngagedTone$Exchange" (137 : Nat) ({ cls := "EngagedTone$Exchange", name := "mayConnect", desc := "(LEngagedTone$World;I)Z" } : Jvm.MethodName)) ∈ ia_T := ia_in4 (List.mem_of_getElem? (i := 178) rfl) rfl
set_option maxRecDepth 100000 in
theorem iw_1010 : (Jvm.Cond.instanceMethod ({ cls := "EngagedTone$Exchange", name := "mayConnect", desc := "(LEngagedTone$World;I)Z" } : Jvm.MethodName)) ∈ ia_T := ia_in4 (List.mem_of_getElem? (i := 180) rfl) rfl
set_option maxRecDepth 100000 in
theorem iw_1011 : (Jvm.Cond.code ({ cls := "EngagedTone$Exchange", name := "mayConnect", desc := "(LEngagedTone$World;I)Z" } : Jvm.MethodName) prog_3_method_6_code (5 : Nat) (Option.some Jvm.ClassFile.FieldType.boolean)) ∈ ia_T := ia_in4 (List.mem_of_getElem? (i := 181) rfl) rfl
set_option maxRecDepth 100000 in
theorem iw_1012 : (Jvm.Cond.methodLink "EngagedTone$Exchange" (89 : Nat) ({ cls := "EngagedTone$World", name := "talking", desc := "()I" } : Jvm.MethodName)) ∈ ia_T := ia_in4 (List.mem_of_getElem? (i := 182) rfl) rfl
set_option maxRecDepth 100000 in
theorem iw_1013 : (Jvm.Cond.methodLink "EngagedTone$Exchange" (86 : Nat) ({ cls := "EngagedTone$World", name := "toning", desc := "()I" } : Jvm.MethodName)) ∈ ia_T := ia_in4 (List.mem_of_getElem? (i := 183) rfl) rfl
set_option maxRecDepth 100000 in
theorem iw_1014 : (Jvm.Cond.methodLink "EngagedTone$Exchange" (152 : Nat) ({ cls := "EngagedTone$World", name := "ringsThatAre", desc := "(I)I" } : Jvm.MethodName)) ∈ ia_T := ia_in4 (List.mem_of_getElem? (i := 184) rfl) rfl
set_option maxRecDepth 100000 in
theorem iw_1015 : (Jvm.Cond.instanceMethod ({ cls := "EngagedTone$World", name := "ringsThatAre", desc := "(I)I" } : Jvm.MethodName)) ∈ ia_T := ia_in4 (List.mem_of_getElem? (i := 185) rfl) rfl
set_option maxRecDepth 100000 in
theorem iw_1016 : (Jvm.Cond.selects "EngagedTone$World" ({ cls := "EngagedTone$World", name := "ringsThatAre", desc := "(I)I" } : Jvm.MethodName) ({ cls := "EngagedTone$World", name := "ringsThatAre", desc := "(I)I" } : Jvm.MethodName)) ∈ ia_T := ia_in4 (List.mem_of_getElem? (i := 186) rfl) rfl
set_option maxRecDepth 100000 in
theorem iw_1017 : (Jvm.Cond.code ({ cls := "EngagedTone$World", name := "ringsThatAre", desc := "(I)I" } : Jvm.MethodName) prog_10_method_13_code (4 : Nat) (Option.some Jvm.ClassFile.FieldType.int)) ∈ ia_T := ia_in4 (List.mem_of_getElem? (i := 187) rfl) rfl
set_option maxRecDepth 100000 in
theorem iw_1018 : (Jvm.Cond.methodLink "EngagedTone$Exchange" (144 : Nat) ({ cls := "EngagedTone$Exchange", name := "draw", desc := "()I" } : Jvm.MethodName)) ∈ ia_T := ia_in4 (List.mem_of_getElem? (i := 188) rfl) rfl
set_option maxRecDepth 100000 in
theorem iw_1020 : (Jvm.Cond.instanceMethod ({ cls := "EngagedTone$Exchange", name := "draw", desc := "()I" } : Jvm.MethodName)) ∈ ia_T := ia_in4 (List.mem_of_getElem? (i := 190) rfl) rfl
set_option maxRecDepth 100000 in
theorem iw_1021 : (Jvm.Cond.code ({ cls := "EngagedTone$Exchange", name := "draw", desc := "()I" } : Jvm.MethodName) prog_3_method_7_code (1 : Nat) (Option.some Jvm.ClassFile.FieldType.int)) ∈ ia_T := ia_in4 (List.mem_of_getElem? (i := 191) rfl) rfl
set_option maxRecDepth 100000 in
theorem iw_1022 : (Jvm.Cond.constantLong "EngagedTone$Exchange" (155 : Nat) (1103515245 : Int64)) ∈ ia_T := ia_in4 (List.mem_of_getElem? (i := 192) rfl) rfl
set_option maxRecDepth 100000 in
theorem iw_1023 : (Jvm.Cond.constantLong "EngagedTone$Exchange" (157 : Nat) (12345 : Int64)) ∈ ia_T := ia_in4 (List.mem_of_getElem? (i := 193) rfl) rfl
set_option maxRecDepth 100000 in
theorem iw_1024 : (Jvm.Cond.constantLong "EngagedTone$Exchange" (159 : Nat) (2147483647 : Int64)) ∈ ia_T := ia_in4 (List.mem_of_getElem? (i := 194) rfl) rfl
set_option maxRecDepth 100000 in
theorem iw_1025 : (Jvm.Cond.constantLong "EngagedTone$Exchange" (147 : Nat) (9 : Int64)) ∈ ia_T := ia_in4 (List.mem_of_getElem? (i := 195) rfl) rfl
set_option maxRecDepth 100000 in
theorem iw_1026 : (Jvm.Cond.methodLink "EngagedTone$Exchange" (95 : Nat) ({ cls := "EngagedTone$Exchange", name := "gainFame", desc := "(LEngagedTone$World;I)V" } : Jvm.MethodName)) ∈ ia_T := ia_in4 (List.mem_of_getElem? (i := 196) rfl) rfl
set_option maxRecDepth 100000 in
theorem iw_1028 : (Jvm.Cond.instanceMethod ({ cls := "EngagedTone$Exchange", name := "gainFame", desc := "(LEngagedTone$World;I)V" } : Jvm.MethodName)) ∈ ia_T := ia_in4 (List.mem_of_getElem? (i := 198) rfl) rfl
set_option maxRecDepth 100000 in
theorem iw_1029 : (Jvm.Cond.code ({ cls := "EngagedTone$Exchange", name := "gainFame", desc := "(LEngagedTone$World;I)V" } : Jvm.MethodName) prog_3_method_8_code (6 : Nat) (Option.none : Option Jvm.ClassFile.FieldType)) ∈ ia_T := ia_in4 (List.mem_of_getElem? (i := 199) rfl) rfl
set_option maxRecDepth 100000 in
theorem iw_1030 : (Jvm.Cond.constantLong "EngagedTone$Exchange" (164 : Nat) (99 : Int64)) ∈ ia_T := ia_in4 (List.mem_of_getElem? (i := 200) rfl) rfl
set_option maxRecDepth 100000 in
theorem iw_1031 : (Jvm.Cond.methodLink "EngagedToneLaw" (88 : Nat) ({ cls := "EngagedTone", name := "ahead", desc := "(III)I" } : Jvm.MethodName)) ∈ ia_T := ia_in4 (List.mem_of_getElem? (i := 201) rfl) rfl
set_option maxRecDepth 100000 in
theorem iw_1032 : (Jvm.Cond.instanceMethod ({ cls := "EngagedTone", name := "ahead", desc := "(III)I" } : Jvm.MethodName)) ∈ ia_T := ia_in4 (List.mem_of_getElem? (i := 202) rfl) rfl
set_option maxRecDepth 100000 in
theorem iw_1033 : (Jvm.Cond.selects "EngagedTone" ({ cls := "EngagedTone", name := "ahead", desc := "(III)I" } : Jvm.MethodName) ({ cls := "EngagedTone", name := "ahead", desc := "(III)I" } : Jvm.MethodName)) ∈ ia_T := ia_in4 (List.mem_of_getElem? (i := 203) rfl) rfl
set_option maxRecDepth 100000 in
theorem iw_1034 : (Jvm.Cond.code ({ cls := "EngagedTone", name := "ahead", desc := "(III)I" } : Jvm.MethodName) prog_1_method_17_code (5 : Nat) (Option.some Jvm.ClassFile.FieldType.int)) ∈ ia_T := ia_in4 (List.mem_of_getElem? (i := 204) rfl) rfl
set_option maxRecDepth 100000 in
theorem iw_1035 : (Jvm.Cond.methodLink "EngagedTone" (212 : Nat) ({ cls := "EngagedTone$Foresight", name := "look", desc := "(LEngagedTone$Script;LEngagedTone$World;)V" } : Jvm.MethodName)) ∈ ia_T := ia_in4 (List.mem_of_getElem? (i := 205) rfl) rfl
set_option maxRecDepth 100000 in
theorem iw_1036 : (Jvm.Cond.instanceMethod ({ cls := "EngagedTone$Foresight", name := "look", desc := "(LEngagedTone$Script;LEngagedTone$World;)V" } : Jvm.MethodName)) ∈ ia_T := ia_in4 (List.mem_of_getElem? (i := 206) rfl) rfl
set_option maxRecDepth 100000 in
theorem iw_1037 : (Jvm.Cond.selects "EngagedTone$Foresight" ({ cls := "EngagedTone$Foresight", name := "look", desc := "(LEngagedTone$Script;LEngagedTone$World;)V" } : Jvm.MethodName) ({ cls := "EngagedTone$Foresight", name := "look", desc := "(LEngagedTone$Script;LEngagedTone$World;)V" } : Jvm.MethodName)) ∈ ia_T := ia_in4 (List.mem_of_getElem? (i := 207) rfl) rfl
set_option maxRecDepth 100000 in
theorem iw_1038 : (Jvm.Cond.code ({ cls := "EngagedTone$Foresight", name := "look", desc := "(LEngagedTone$Script;LEngagedTone$World;)V" } : Jvm.MethodName) prog_4_method_2_code (3 : Nat) (Option.none : Option Jvm.ClassFile.FieldType)) ∈ ia_T := ia_in4 (List.mem_of_getElem? (i := 208) rfl) rfl
set_option maxRecDepth 100000 in
theorem iw_1039 : (Jvm.Cond.methodLink "EngagedTone$Foresight" (25 : Nat) ({ cls := "EngagedTone$World", name := "become", desc := "(LEngagedTone$World;)V" } : Jvm.MethodName)) ∈ ia_T := ia_in4 (List.mem_of_getElem? (i := 209) rfl) rfl
set_option maxRecDepth 100000 in
theorem iw_1040 : (Jvm.Cond.methodLink "EngagedTone$Foresight" (29 : Nat) ({ cls := "EngagedTone$Exchange", name := "open", desc := "(LEngagedTone$Script;)V" } : Jvm.MethodName)) ∈ ia_T := ia_in4 (List.mem_of_getElem? (i := 210) rfl) rfl
set_option maxRecDepth 100000 in
theorem iw_1041 : (Jvm.Cond.methodLink "EngagedTone" (216 : Nat) ({ cls := "EngagedTone$Foresight", name := "run", desc := "(I)V" } : Jvm.MethodName)) ∈ ia_T := ia_in4 (List.mem_of_getElem? (i := 211) rfl) rfl
set_option maxRecDepth 100000 in
theorem iw_1042 : (Jvm.Cond.instanceMethod ({ cls := "EngagedTone$Foresight", name := "run", desc := "(I)V" } : Jvm.MethodName)) ∈ ia_T := ia_in4 (List.mem_of_getElem? (i := 212) rfl) rfl
set_option maxRecDepth 100000 in
theorem iw_1043 : (Jvm.Cond.selects "EngagedTone$Foresight" ({ cls := "EngagedTone$Foresight", name := "run", desc := "(I)V" } : Jvm.MethodName) ({ cls := "EngagedTone$Foresight", name := "run", desc := "(I)V" } : Jvm.MethodName)) ∈ ia_T := ia_in4 (List.mem_of_getElem? (i := 213) rfl) rfl
set_option maxRecDepth 100000 in
theorem iw_1044 : (Jvm.Cond.code ({ cls := "EngagedTone$Foresight", name := "run", desc := "(I)V" } : Jvm.MethodName) prog_4_method_3_code (3 : Nat) (Option.none : Option Jvm.ClassFile.FieldType)) ∈ ia_T := ia_in4 (List.mem_of_getElem? (i := 214) rfl) rfl
set_option maxRecDepth 100000 in
theorem iw_1045 : (Jvm.Cond.methodLink "EngagedTone$Foresight" (33 : Nat) ({ cls := "EngagedTone$Exchange", name := "step", desc := "(LEngagedTone$World;)V" } : Jvm.MethodName)) ∈ ia_T := ia_in4 (List.mem_of_getElem? (i := 215) rfl) rfl
set_option maxRecDepth 100000 in
theorem iw_1046 : (Jvm.Cond.methodLink "EngagedTone" (222 : Nat) ({ cls := "EngagedTone$World", name := "throughs", desc := "()I" } : Jvm.MethodName)) ∈ ia_T := ia_in4 (List.mem_of_getElem? (i := 216) rfl) rfl
set_option maxRecDepth 100000 in
theorem iw_1047 : (Jvm.Cond.instanceMethod ({ cls := "EngagedTone$World", name := "throughs", desc := "()I" } : Jvm.MethodName)) ∈ ia_T := ia_in4 (List.mem_of_getElem? (i := 217) rfl) rfl
set_option maxRecDepth 100000 in
theorem iw_1048 : (Jvm.Cond.selects "EngagedTone$World" ({ cls := "EngagedTone$World", name := "throughs", desc := "()I" } : Jvm.MethodName) ({ cls := "EngagedTone$World", name := "throughs", desc := "()I" } : Jvm.MethodName)) ∈ ia_T := ia_in4 (List.mem_of_getElem? (i := 218) rfl) rfl
set_option maxRecDepth 100000 in
theorem iw_1049 : (Jvm.Cond.code ({ cls := "EngagedTone$World", name := "throughs", desc := "()I" } : Jvm.MethodName) prog_10_method_12_code (1 : Nat) (Option.some Jvm.ClassFile.FieldType.int)) ∈ ia_T := ia_in4 (List.mem_of_getElem? (i := 219) rfl) rfl
set_option maxRecDepth 100000 in
theorem iw_1050 : (Jvm.Cond.methodLink "EngagedTone$World" (74 : Nat) ({ cls := "EngagedTone$World", name := "ringsThatAre", desc := "(I)I" } : Jvm.MethodName)) ∈ ia_T := ia_in4 (List.mem_of_getElem? (i := 220) rfl) rfl
set_option maxRecDepth 100000 in
theorem iw_1051 : (Jvm.Cond.methodLink "EngagedTone" (225 : Nat) ({ cls := "EngagedTone$World", name := "ringsThatAre", desc := "(I)I" } : Jvm.MethodName)) ∈ ia_T := ia_in4 (List.mem_of_getElem? (i := 221) rfl) rfl
set_option maxRecDepth 100000 in
theorem iw_1052 : (Jvm.Cond.methodLink "EngagedToneLaw" (92 : Nat) ({ cls := "EngagedTone", name := "through", desc := "(I)I" } : Jvm.MethodName)) ∈ ia_T := ia_in4 (List.mem_of_getElem? (i := 222) rfl) rfl
set_option maxRecDepth 100000 in
theorem iw_1053 : (Jvm.Cond.instanceMethod ({ cls := "EngagedTone", name := "through", desc := "(I)I" } : Jvm.MethodName)) ∈ ia_T := ia_in4 (List.mem_of_getElem? (i := 223) rfl) rfl
set_option maxRecDepth 100000 in
theorem iw_1054 : (Jvm.Cond.selects "EngagedTone" ({ cls := "EngagedTone", name := "through", desc := "(I)I" } : Jvm.MethodName) ({ cls := "EngagedTone", name := "through", desc := "(I)I" } : Jvm.MethodName)) ∈ ia_T := ia_in4 (List.mem_of_getElem? (i := 224) rfl) rfl
set_option maxRecDepth 100000 in
theorem iw_1055 : (Jvm.Cond.code ({ cls := "EngagedTone", name := "through", desc := "(I)I" } : Jvm.MethodName) prog_1_method_18_code (2 : Nat) (Option.some Jvm.ClassFile.FieldType.int)) ∈ ia_T := ia_in4 (List.mem_of_getElem? (i := 225) rfl) rfl
set_option maxRecDepth 100000 in
theorem iw_1056 : (Jvm.Cond.methodLink "EngagedTone" (231 : Nat) ({ cls := "EngagedTone$World", name := "isThrough", desc := "(I)Z" } : Jvm.MethodName)) ∈ ia_T := ia_in4 (List.mem_of_getElem? (i := 226) rfl) rfl
set_option maxRecDepth 100000 in
theorem iw_1057 : (Jvm.Cond.instanceMethod ({ cls := "EngagedTone$World", name := "isThrough", desc := "(I)Z" } : Jvm.MethodName)) ∈ ia_T := ia_in4 (List.mem_of_getElem? (i := 227) rfl) rfl
set_option maxRecDepth 100000 in
theorem iw_1058 : (Jvm.Cond.selects "EngagedTone$World" ({ cls := "EngagedTone$World", name := "isThrough", desc := "(I)Z" } : Jvm.MethodName) ({ cls := "EngagedTone$World", name := "isThrough", desc := "(I)Z" } : Jvm.MethodName)) ∈ ia_T := ia_in4 (List.mem_of_getElem? (i := 228) rfl) rfl
set_option maxRecDepth 100000 in
theorem iw_1059 : (Jvm.Cond.code ({ cls := "EngagedTone$World", name := "isThrough", desc := "(I)Z" } : Jvm.MethodName) prog_10_method_11_code (2 : Nat) (Option.some Jvm.ClassFile.FieldType.boolean)) ∈ ia_T := ia_in4 (List.mem_of_getElem? (i := 229) rfl) rfl
set_option maxRecDepth 100000 in
theorem iw_1060 : (Jvm.Cond.methodLink "EngagedTone" (234 : Nat) ({ cls := "EngagedTone$Foresight", name := "quartersTillThrough", desc := "(I)I" } : Jvm.MethodName)) ∈ ia_T := ia_in4 (List.mem_of_getElem? (i := 230) rfl) rfl
set_option maxRecDepth 100000 in
theorem iw_1061 : (Jvm.Cond.instanceMethod ({ cls := "EngagedTone$Foresight", name := "quartersTillThrough", desc := "(I)I" } : Jvm.MethodName)) ∈ ia_T := ia_in4 (List.mem_of_getElem? (i := 231) rfl) rfl
set_option maxRecDepth 100000 in
theorem iw_1062 : (Jvm.Cond.selects "EngagedTone$Foresight" ({ cls := "EngagedTone$Foresight", name := "quartersTillThrough", desc := "(I)I" } : Jvm.MethodName) ({ cls := "EngagedTone$Foresight", name := "quartersTillThrough", desc := "(I)I" } : Jvm.MethodName)) ∈ ia_T := ia_in4 (List.mem_of_getElem? (i := 232) rfl) rfl
set_option maxRecDepth 100000 in
theorem iw_1063 : (Jvm.Cond.code ({ cls := "EngagedTone$Foresight", name := "quartersTillThrough", desc := "(I)I" } : Jvm.MethodName) prog_4_method_5_code (3 : Nat) (Option.some Jvm.ClassFile.FieldType.int)) ∈ ia_T := ia_in4 (List.mem_of_getElem? (i := 233) rfl) rfl
set_option maxRecDepth 100000 in
theorem iw_1064 : (Jvm.Cond.methodLink "EngagedTone$Foresight" (44 : Nat) ({ cls := "EngagedTone$World", name := "isThrough", desc := "(I)Z" } : Jvm.MethodName)) ∈ ia_T := ia_in4 (List.mem_of_getElem? (i := 234) rfl) rfl
set_option maxRecDepth 100000 in
theorem iw_1065 : (Jvm.Cond.methodLink "EngagedToneLaw" (96 : Nat) ({ cls := "EngagedTone", name := "when", desc := "(II)I" } : Jvm.MethodName)) ∈ ia_T := ia_in4 (List.mem_of_getElem? (i := 235) rfl) rfl
set_option maxRecDepth 100000 in
theorem iw_1066 : (Jvm.Cond.instanceMethod ({ cls := "EngagedTone", name := "when", desc := "(II)I" } : Jvm.MethodName)) ∈ ia_T := ia_in4 (List.mem_of_getElem? (i := 236) rfl) rfl
set_option maxRecDepth 100000 in
theorem iw_1067 : (Jvm.Cond.selects "EngagedTone" ({ cls := "EngagedTone", name := "when", desc := "(II)I" } : Jvm.MethodName) ({ cls := "EngagedTone", name := "when", desc := "(II)I" } : Jvm.MethodName)) ∈ ia_T := ia_in4 (List.mem_of_getElem? (i := 237) rfl) rfl
set_option maxRecDepth 100000 in
theorem iw_1068 : (Jvm.Cond.code ({ cls := "EngagedTone", name := "when", desc := "(II)I" } : Jvm.MethodName) prog_1_method_19_code (7 : Nat) (Option.some Jvm.ClassFile.FieldType.int)) ∈ ia_T := ia_in4 (List.mem_of_getElem? (i := 238) rfl) rfl
set_option maxRecDepth 100000 in
theorem iw_1069 : (Jvm.Cond.methodLink "EngagedTone" (237 : Nat) ({ cls := "EngagedTone$Foresight", name := "quartersTillOver", desc := "(II)I" } : Jvm.MethodName)) ∈ ia_T := ia_in4 (List.mem_of_getElem? (i := 239) rfl) rfl
set_option maxRecDepth 100000 in
theorem iw_1070 : (Jvm.Cond.instanceMethod ({ cls := "EngagedTone$Foresight", name := "quartersTillOver", desc := "(II)I" } : Jvm.MethodName)) ∈ ia_T := ia_in5 (List.mem_of_getElem? (i := 0) rfl) rfl
set_option maxRecDepth 100000 in
theorem iw_1071 : (Jvm.Cond.selects "EngagedTone$Foresight" ({ cls := "EngagedTone$Foresight", name := "quartersTillOver", desc := "(II)I" } : Jvm.MethodName) ({ cls := "EngagedTone$Foresight", name := "quartersTillOver", desc := "(II)I" } : Jvm.MethodName)) ∈ ia_T := ia_in5 (List.mem_of_getElem? (i := 1) rfl) rfl
set_option maxRecDepth 100000 in
theorem iw_1072 : (Jvm.Cond.code ({ cls := "EngagedTone$Foresight", name := "quartersTillOver", desc := "(II)I" } : Jvm.MethodName) prog_4_method_6_code (4 : Nat) (Option.some Jvm.ClassFile.FieldType.int)) ∈ ia_T := ia_in5 (List.mem_of_getElem? (i := 2) rfl) rfl
set_option maxRecDepth 100000 in
theorem iw_1073 : (Jvm.Cond.methodLink "EngagedToneLaw" (100 : Nat) ({ cls := "EngagedTone", name := "lines", desc := "()I" } : Jvm.MethodName)) ∈ ia_T := ia_in5 (List.mem_of_getElem? (i := 3) rfl) rfl
set_option maxRecDepth 100000 in
theorem iw_1074 : (Jvm.Cond.instanceMethod ({ cls := "EngagedTone", name := "lines", desc := "()I" } : Jvm.MethodName)) ∈ ia_T := ia_in5 (List.mem_of_getElem? (i := 4) rfl) rfl
set_option maxRecDepth 100000 in
theorem iw_1075 : (Jvm.Cond.selects "EngagedTone" ({ cls := "EngagedTone", name := "lines", desc := "()I" } : Jvm.MethodName) ({ cls := "EngagedTone", name := "lines", desc := "()I" } : Jvm.MethodName)) ∈ ia_T := ia_in5 (List.mem_of_getElem? (i := 5) rfl) rfl
set_option maxRecDepth 100000 in
theorem iw_1076 : (Jvm.Cond.code ({ cls := "EngagedTone", name := "lines", desc := "()I" } : Jvm.MethodName) prog_1_method_20_code (2 : Nat) (Option.some Jvm.ClassFile.FieldType.int)) ∈ ia_T := ia_in5 (List.mem_of_getElem? (i := 6) rfl) rfl
set_option maxRecDepth 100000 in
theorem iw_1077 : (Jvm.Cond.methodLink "EngagedTone" (245 : Nat) ({ cls := "EngagedTone$Foresight", name := "givenUpIn", desc := "(I)I" } : Jvm.MethodName)) ∈ ia_T := ia_in5 (List.mem_of_getElem? (i := 7) rfl) rfl
set_option maxRecDepth 100000 in
theorem iw_1078 : (Jvm.Cond.instanceMethod ({ cls := "EngagedTone$Foresight", name := "givenUpIn", desc := "(I)I" } : Jvm.MethodName)) ∈ ia_T := ia_in5 (List.mem_of_getElem? (i := 8) rfl) rfl
set_option maxRecDepth 100000 in
theorem iw_1079 : (Jvm.Cond.selects "EngagedTone$Foresight" ({ cls := "EngagedTone$Foresight", name := "givenUpIn", desc := "(I)I" } : Jvm.MethodName) ({ cls := "EngagedTone$Foresight", name := "givenUpIn", desc := "(I)I" } : Jvm.MethodName)) ∈ ia_T := ia_in5 (List.mem_of_getElem? (i := 9) rfl) rfl
set_option maxRecDepth 100000 in
theorem iw_1080 : (Jvm.Cond.code ({ cls := "EngagedTone$Foresight", name := "givenUpIn", desc := "(I)I" } : Jvm.MethodName) prog_4_method_4_code (4 : Nat) (Option.some Jvm.ClassFile.FieldType.int)) ∈ ia_T := ia_in5 (List.mem_of_getElem? (i := 10) rfl) rfl
set_option maxRecDepth 100000 in
theorem iw_1081 : (Jvm.Cond.methodLink "EngagedTone$Foresight" (36 : Nat) ({ cls := "EngagedTone$World", name := "ringsThatAre", desc := "(I)I" } : Jvm.MethodName)) ∈ ia_T := ia_in5 (List.mem_of_getElem? (i := 11) rfl) rfl
set_option maxRecDepth 100000 in
theorem iw_1082 : (Jvm.Cond.methodLink "EngagedToneLaw" (104 : Nat) ({ cls := "EngagedTone", name := "stop", desc := "(I)I" } : Jvm.MethodName)) ∈ ia_T := ia_in5 (List.mem_of_getElem? (i := 12) rfl) rfl
set_option maxRecDepth 100000 in
theorem iw_1083 : (Jvm.Cond.instanceMethod ({ cls := "EngagedTone", name := "stop", desc := "(I)I" } : Jvm.MethodName)) ∈ ia_T := ia_in5 (List.mem_of_getElem? (i := 13) rfl) rfl
set_option maxRecDepth 100000 in
theorem iw_1084 : (Jvm.Cond.selects "EngagedTone" ({ cls := "EngagedTone", name := "stop", desc := "(I)I" } : Jvm.MethodName) ({ cls := "EngagedTone", name := "stop", desc := "(I)I" } : Jvm.MethodName)) ∈ ia_T := ia_in5 (List.mem_of_getElem? (i := 14) rfl) rfl
set_option maxRecDepth 100000 in
theorem iw_1085 : (Jvm.Cond.code ({ cls := "EngagedTone", name := "stop", desc := "(I)I" } : Jvm.MethodName) prog_1_method_21_code (6 : Nat) (Option.some Jvm.ClassFile.FieldType.int)) ∈ ia_T := ia_in5 (List.mem_of_getElem? (i := 15) rfl) rfl
set_option maxRecDepth 100000 in
theorem iw_1086 : (Jvm.Cond.methodLink "EngagedTone" (248 : Nat) ({ cls := "EngagedTone$World", name := "livingTones", desc := "(I)I" } : Jvm.MethodName)) ∈ ia_T := ia_in5 (List.mem_of_getElem? (i := 16) rfl) rfl
set_option maxRecDepth 100000 in
theorem iw_1087 : (Jvm.Cond.instanceMethod ({ cls := "EngagedTone$World", name := "livingTones", desc := "(I)I" } : Jvm.MethodName)) ∈ ia_T := ia_in5 (List.mem_of_getElem? (i := 17) rfl) rfl
set_option maxRecDepth 100000 in
theorem iw_1088 : (Jvm.Cond.selects "EngagedTone$World" ({ cls := "EngagedTone$World", name := "livingTones", desc := "(I)I" } : Jvm.MethodName) ({ cls := "EngagedTone$World", name := "livingTones", desc := "(I)I" } : Jvm.MethodName)) ∈ ia_T := ia_in5 (List.mem_of_getElem? (i := 18) rfl) rfl
set_option maxRecDepth 100000 in
theorem iw_1089 : (Jvm.Cond.code ({ cls := "EngagedTone$World", name := "livingTones", desc := "(I)I" } : Jvm.MethodName) prog_10_method_16_code (4 : Nat) (Option.some Jvm.ClassFile.FieldType.int)) ∈ ia_T := ia_in5 (List.mem_of_getElem? (i := 19) rfl) rfl
set_option maxRecDepth 100000 in
theorem iw_1090 : (Jvm.Cond.methodLink "EngagedTone" (251 : Nat) ({ cls := "java/lang/Integer", name := "bitCount", desc := "(I)I" } : Jvm.MethodName)) ∈ ia_T := ia_in5 (List.mem_of_getElem? (i := 20) rfl) rfl
set_option maxRecDepth 100000 in
theorem iw_1091 : (Jvm.Cond.methodLink "EngagedTone" (256 : Nat) ({ cls := "EngagedTone", name := "fewToStop", desc := "(III)I" } : Jvm.MethodName)) ∈ ia_T := ia_in5 (List.mem_of_getElem? (i := 21) rfl) rfl
set_option maxRecDepth 100000 in
theorem iw_1093 : (Jvm.Cond.instanceMethod ({ cls := "EngagedTone", name := "fewToStop", desc := "(III)I" } : Jvm.MethodName)) ∈ ia_T := ia_in5 (List.mem_of_getElem? (i := 23) rfl) rfl
set_option maxRecDepth 100000 in
theorem iw_1094 : (Jvm.Cond.code ({ cls := "EngagedTone", name := "fewToStop", desc := "(III)I" } : Jvm.MethodName) prog_1_method_22_code (5 : Nat) (Option.some Jvm.ClassFile.FieldType.int)) ∈ ia_T := ia_in5 (List.mem_of_getElem? (i := 24) rfl) rfl
set_option maxRecDepth 100000 in
theorem iw_1095 : (Jvm.Cond.methodLink "EngagedTone" (260 : Nat) ({ cls := "EngagedTone$World", name := "killTones", desc := "(I)V" } : Jvm.MethodName)) ∈ ia_T := ia_in5 (List.mem_of_getElem? (i := 25) rfl) rfl
set_option maxRecDepth 100000 in
theorem iw_1096 : (Jvm.Cond.instanceMethod ({ cls := "EngagedTone$World", name := "killTones", desc := "(I)V" } : Jvm.MethodName)) ∈ ia_T := ia_in5 (List.mem_of_getElem? (i := 26) rfl) rfl
set_option maxRecDepth 100000 in
theorem iw_1097 : (Jvm.Cond.selects "EngagedTone$World" ({ cls := "EngagedTone$World", name := "killTones", desc := "(I)V" } : Jvm.MethodName) ({ cls := "EngagedTone$World", name := "killTones", desc := "(I)V" } : Jvm.MethodName)) ∈ ia_T := ia_in5 (List.mem_of_getElem? (i := 27) rfl) rfl
set_option maxRecDepth 100000 in
theorem iw_1098 : (Jvm.Cond.code ({ cls := "EngagedTone$World", name := "killTones", desc := "(I)V" } : Jvm.MethodName) prog_10_method_17_code (3 : Nat) (Option.none : Option Jvm.ClassFile.FieldType)) ∈ ia_T := ia_in5 (List.mem_of_getElem? (i := 28) rfl) rfl
set_option maxRecDepth 100000 in
theorem iw_1099 : (Jvm.Cond.methodLink "EngagedToneLaw" (108 : Nat) ({ cls := "EngagedTone", name := "shift", desc := "(I)I" } : Jvm.MethodName)) ∈ ia_T := ia_in5 (List.mem_of_getElem? (i := 29) rfl) rfl
set_option maxRecDepth 100000 in
theorem iw_1100 : (Jvm.Cond.instanceMethod ({ cls := "EngagedTone", name := "shift", desc := "(I)I" } : Jvm.MethodName)) ∈ ia_T := ia_in5 (List.mem_of_getElem? (i := 30) rfl) rfl
set_option maxRecDepth 100000 in
theorem iw_1101 : (Jvm.Cond.selects "EngagedTone" ({ cls := "EngagedTone", name := "shift", desc := "(I)I" } : Jvm.MethodName) ({ cls := "EngagedTone", name := "shift", desc := "(I)I" } : Jvm.MethodName)) ∈ ia_T := ia_in5 (List.mem_of_getElem? (i := 31) rfl) rfl
set_option maxRecDepth 100000 in
theorem iw_1102 : (Jvm.Cond.code ({ cls := "EngagedTone", name := "shift", desc := "(I)I" } : Jvm.MethodName) prog_1_method_23_code (2 : Nat) (Option.some Jvm.ClassFile.FieldType.int)) ∈ ia_T := ia_in5 (List.mem_of_getElem? (i := 32) rfl) rfl
set_option maxRecDepth 100000 in
theorem iw_1103 : (Jvm.Cond.methodLink "EngagedTone" (263 : Nat) ({ cls := "EngagedTone$World", name := "toneToBegin", desc := "(I)I" } : Jvm.MethodName)) ∈ ia_T := ia_in5 (List.mem_of_getElem? (i := 33) rfl) rfl
set_option maxRecDepth 100000 in
theorem iw_1104 : (Jvm.Cond.instanceMethod ({ cls := "EngagedTone$World", name := "toneToBegin", desc := "(I)I" } : Jvm.MethodName)) ∈ ia_T := ia_in5 (List.mem_of_getElem? (i := 34) rfl) rfl
set_option maxRecDepth 100000 in
theorem iw_1105 : (Jvm.Cond.selects "EngagedTone$World" ({ cls := "EngagedTone$World", name := "toneToBegin", desc := "(I)I" } : Jvm.MethodName) ({ cls := "EngagedTone$World", name := "toneToBegin", desc := "(I)I" } : Jvm.MethodName)) ∈ ia_T := ia_in5 (List.mem_of_getElem? (i := 35) rfl) rfl
set_option maxRecDepth 100000 in
theorem iw_1106 : (Jvm.Cond.code ({ cls := "EngagedTone$World", name := "toneToBegin", desc := "(I)I" } : Jvm.MethodName) prog_10_method_18_code (4 : Nat) (Option.some Jvm.ClassFile.FieldType.int)) ∈ ia_T := ia_in5 (List.mem_of_getElem? (i := 36) rfl) rfl
set_option maxRecDepth 100000 in
theorem iw_1107 : (Jvm.Cond.methodLink "EngagedTone" (266 : Nat) ({ cls := "EngagedTone$Foresight", name := "bestShift", desc := "(LEngagedTone$Script;LEngagedTone$World;I)I" } : Jvm.MethodName)) ∈ ia_T := ia_in5 (List.mem_of_getElem? (i := 37) rfl) rfl
set_option maxRecDepth 100000 in
theorem iw_1108 : (Jvm.Cond.instanceMethod ({ cls := "EngagedTone$Foresight", name := "bestShift", desc := "(LEngagedTone$Script;LEngagedTone$World;I)I" } : Jvm.MethodName)) ∈ ia_T := ia_in5 (List.mem_of_getElem? (i := 38) rfl) rfl
set_option maxRecDepth 100000 in
theorem iw_1109 : (Jvm.Cond.selects "EngagedTone$Foresight" ({ cls := "EngagedTone$Foresight", name := "bestShift", desc := "(LEngagedTone$Script;LEngagedTone$World;I)I" } : Jvm.MethodName) ({ cls := "EngagedTone$Foresight", name := "bestShift", desc := "(LEngagedTone$Script;LEngagedTone$World;I)I" } : Jvm.MethodName)) ∈ ia_T := ia_in5 (List.mem_of_getElem? (i := 39) rfl) rfl
set_option maxRecDepth 100000 in
theorem iw_1110 : (Jvm.Cond.code ({ cls := "EngagedTone$Foresight", name := "bestShift", desc := "(LEngagedTone$Script;LEngagedTone$World;I)I" } : Jvm.MethodName) prog_4_method_8_code (10 : Nat) (Option.some Jvm.ClassFile.FieldType.int)) ∈ ia_T := ia_in5 (List.mem_of_getElem? (i := 40) rfl) rfl
set_option maxRecDepth 100000 in
theorem iw_1111 : (Jvm.Cond.methodLink "EngagedTone$Foresight" (52 : Nat) ({ cls := "EngagedTone$World", name := "toneToBegin", desc := "(I)I" } : Jvm.MethodName)) ∈ ia_T := ia_in5 (List.mem_of_getElem? (i := 41) rfl) rfl
set_option maxRecDepth 100000 in
theorem iw_1112 : (Jvm.Cond.methodLink "EngagedTone$Foresight" (55 : Nat) ({ cls := "EngagedTone$Foresight", name := "look", desc := "(LEngagedTone$Script;LEngagedTone$World;)V" } : Jvm.MethodName)) ∈ ia_T := ia_in5 (List.mem_of_getElem? (i := 42) rfl) rfl
set_option maxRecDepth 100000 in
theorem iw_1113 : (Jvm.Cond.methodLink "EngagedTone$Foresight" (62 : Nat) ({ cls := "EngagedTone$Foresight", name := "laterOf", desc := "(III)I" } : Jvm.MethodName)) ∈ ia_T := ia_in5 (List.mem_of_getElem? (i := 43) rfl) rfl
set_option maxRecDepth 100000 in
theorem iw_1114 : (Jvm.Cond.static ({ cls := "EngagedTone$Foresight", name := "laterOf", desc := "(III)I" } : Jvm.MethodName)) ∈ ia_T := ia_in5 (List.mem_of_getElem? (i := 44) rfl) rfl
set_option maxRecDepth 100000 in
theorem iw_1115 : (Jvm.Cond.code ({ cls := "EngagedTone$Foresight", name := "laterOf", desc := "(III)I" } : Jvm.MethodName) prog_4_method_9_code (3 : Nat) (Option.some Jvm.ClassFile.FieldType.int)) ∈ ia_T := ia_in5 (List.mem_of_getElem? (i := 45) rfl) rfl
set_option maxRecDepth 100000 in
theorem iw_1116 : (Jvm.Cond.methodLink "EngagedTone$Foresight" (66 : Nat) ({ cls := "EngagedTone$Foresight", name := "givenUpIn", desc := "(I)I" } : Jvm.MethodName)) ∈ ia_T := ia_in5 (List.mem_of_getElem? (i := 46) rfl) rfl
set_option maxRecDepth 100000 in
theorem iw_1117 : (Jvm.Cond.methodLink "EngagedToneLaw" (112 : Nat) ({ cls := "EngagedTone", name := "rests", desc := "(II)I" } : Jvm.MethodName)) ∈ ia_T := ia_in5 (List.mem_of_getElem? (i := 47) rfl) rfl
set_option maxRecDepth 100000 in
theorem iw_1118 : (Jvm.Cond.instanceMethod ({ cls := "EngagedTone", name := "rests", desc := "(II)I" } : Jvm.MethodName)) ∈ ia_T := ia_in5 (List.mem_of_getElem? (i := 48) rfl) rfl
set_option maxRecDepth 100000 in
theorem iw_1119 : (Jvm.Cond.selects "EngagedTone" ({ cls := "EngagedTone", name := "rests", desc := "(II)I" } : Jvm.MethodName) ({ cls := "EngagedTone", name := "rests", desc := "(II)I" } : Jvm.MethodName)) ∈ ia_T := ia_in5 (List.mem_of_getElem? (i := 49) rfl) rfl
set_option maxRecDepth 100000 in
theorem iw_1120 : (Jvm.Cond.code ({ cls := "EngagedTone", name := "rests", desc := "(II)I" } : Jvm.MethodName) prog_1_method_24_code (5 : Nat) (Option.some Jvm.ClassFile.FieldType.int)) ∈ ia_T := ia_in5 (List.mem_of_getElem? (i := 50) rfl) rfl
set_option maxRecDepth 100000 in
theorem iw_1121 : (Jvm.Cond.methodLink "EngagedTone" (270 : Nat) ({ cls := "EngagedTone", name := "areRivals", desc := "(II)Z" } : Jvm.MethodName)) ∈ ia_T := ia_in5 (List.mem_of_getElem? (i := 51) rfl) rfl
set_option maxRecDepth 100000 in
theorem iw_1123 : (Jvm.Cond.instanceMethod ({ cls := "EngagedTone", name := "areRivals", desc := "(II)Z" } : Jvm.MethodName)) ∈ ia_T := ia_in5 (List.mem_of_getElem? (i := 53) rfl) rfl
set_option maxRecDepth 100000 in
theorem iw_1124 : (Jvm.Cond.code ({ cls := "EngagedTone", name := "areRivals", desc := "(II)Z" } : Jvm.MethodName) prog_1_method_50_code (3 : Nat) (Option.some Jvm.ClassFile.FieldType.boolean)) ∈ ia_T := ia_in5 (List.mem_of_getElem? (i := 54) rfl) rfl
set_option maxRecDepth 100000 in
theorem iw_1125 : (Jvm.Cond.methodLink "EngagedTone" (274 : Nat) ({ cls := "EngagedTone", name := "isRest", desc := "(III)Z" } : Jvm.MethodName)) ∈ ia_T := ia_in5 (List.mem_of_getElem? (i := 55) rfl) rfl
set_option maxRecDepth 100000 in
theorem iw_1127 : (Jvm.Cond.instanceMethod ({ cls := "EngagedTone", name := "isRest", desc := "(III)Z" } : Jvm.MethodName)) ∈ ia_T := ia_in5 (List.mem_of_getElem? (i := 57) rfl) rfl
set_option maxRecDepth 100000 in
theorem iw_1128 : (Jvm.Cond.code ({ cls := "EngagedTone", name := "isRest", desc := "(III)Z" } : Jvm.MethodName) prog_1_method_26_code (9 : Nat) (Option.some Jvm.ClassFile.FieldType.boolean)) ∈ ia_T := ia_in5 (List.mem_of_getElem? (i := 58) rfl) rfl
set_option maxRecDepth 100000 in
theorem iw_1129 : (Jvm.Cond.methodLink "EngagedTone" (278 : Nat) ({ cls := "EngagedTone", name := "gain", desc := "(IIII)I" } : Jvm.MethodName)) ∈ ia_T := ia_in5 (List.mem_of_getElem? (i := 59) rfl) rfl
set_option maxRecDepth 100000 in
theorem iw_1130 : (Jvm.Cond.static ({ cls := "EngagedTone", name := "gain", desc := "(IIII)I" } : Jvm.MethodName)) ∈ ia_T := ia_in5 (List.mem_of_getElem? (i := 60) rfl) rfl
set_option maxRecDepth 100000 in
theorem iw_1131 : (Jvm.Cond.code ({ cls := "EngagedTone", name := "gain", desc := "(IIII)I" } : Jvm.MethodName) prog_1_method_27_code (4 : Nat) (Option.some Jvm.ClassFile.FieldType.int)) ∈ ia_T := ia_in5 (List.mem_of_getElem? (i := 61) rfl) rfl
set_option maxRecDepth 100000 in
theorem iw_1132 : (Jvm.Cond.methodLink "EngagedToneLaw" (116 : Nat) ({ cls := "EngagedTone", name := "rest", desc := "(III)I" } : Jvm.MethodName)) ∈ ia_T := ia_in5 (List.mem_of_getElem? (i := 62) rfl) rfl
set_option maxRecDepth 100000 in
theorem iw_1133 : (Jvm.Cond.instanceMethod ({ cls := "EngagedTone", name := "rest", desc := "(III)I" } : Jvm.MethodName)) ∈ ia_T := ia_in5 (List.mem_of_getElem? (i := 63) rfl) rfl
set_option maxRecDepth 100000 in
theorem iw_1134 : (Jvm.Cond.selects "EngagedTone" ({ cls := "EngagedTone", name := "rest", desc := "(III)I" } : Jvm.MethodName) ({ cls := "EngagedTone", name := "rest", desc := "(III)I" } : Jvm.MethodName)) ∈ ia_T := ia_in5 (List.mem_of_getElem? (i := 64) rfl) rfl
set_option maxRecDepth 100000 in
theorem iw_1135 : (Jvm.Cond.code ({ cls := "EngagedTone", name := "rest", desc := "(III)I" } : Jvm.MethodName) prog_1_method_25_code (6 : Nat) (Option.some Jvm.ClassFile.FieldType.int)) ∈ ia_T := ia_in5 (List.mem_of_getElem? (i := 65) rfl) rfl
set_option maxRecDepth 100000 in
theorem iw_1136 : (Jvm.Cond.methodLink "EngagedToneLaw" (120 : Nat) ({ cls := "EngagedTone", name := "auction", desc := "(II)I" } : Jvm.MethodName)) ∈ ia_T := ia_in5 (List.mem_of_getElem? (i := 66) rfl) rfl
set_option maxRecDepth 100000 in
theorem iw_1137 : (Jvm.Cond.instanceMethod ({ cls := "EngagedTone", name := "auction", desc := "(II)I" } : Jvm.MethodName)) ∈ ia_T := ia_in5 (List.mem_of_getElem? (i := 67) rfl) rfl
set_option maxRecDepth 100000 in
theorem iw_1138 : (Jvm.Cond.selects "EngagedTone" ({ cls := "EngagedTone", name := "auction", desc := "(II)I" } : Jvm.MethodName) ({ cls := "EngagedTone", name := "auction", desc := "(II)I" } : Jvm.MethodName)) ∈ ia_T := ia_in5 (List.mem_of_getElem? (i := 68) rfl) rfl
set_option maxRecDepth 100000 in
theorem iw_1139 : (Jvm.Cond.code ({ cls := "EngagedTone", name := "auction", desc := "(II)I" } : Jvm.MethodName) prog_1_method_28_code (5 : Nat) (Option.some Jvm.ClassFile.FieldType.int)) ∈ ia_T := ia_in5 (List.mem_of_getElem? (i := 69) rfl) rfl
set_option maxRecDepth 100000 in
theorem iw_1140 : (Jvm.Cond.methodLink "EngagedTone" (285 : Nat) ({ cls := "EngagedTone", name := "greatestBidder", desc := "(I)I" } : Jvm.MethodName)) ∈ ia_T := ia_in5 (List.mem_of_getElem? (i := 70) rfl) rfl
set_option maxRecDepth 100000 in
theorem iw_1142 : (Jvm.Cond.instanceMethod ({ cls := "EngagedTone", name := "greatestBidder", desc := "(I)I" } : Jvm.MethodName)) ∈ ia_T := ia_in5 (List.mem_of_getElem? (i := 72) rfl) rfl
set_option maxRecDepth 100000 in
theorem iw_1143 : (Jvm.Cond.code ({ cls := "EngagedTone", name := "greatestBidder", desc := "(I)I" } : Jvm.MethodName) prog_1_method_29_code (4 : Nat) (Option.some Jvm.ClassFile.FieldType.int)) ∈ ia_T := ia_in5 (List.mem_of_getElem? (i := 73) rfl) rfl
set_option maxRecDepth 100000 in
theorem iw_1144 : (Jvm.Cond.methodLink "EngagedTone" (288 : Nat) ({ cls := "EngagedTone", name := "bidOf", desc := "(I)I" } : Jvm.MethodName)) ∈ ia_T := ia_in5 (List.mem_of_getElem? (i := 74) rfl) rfl
set_option maxRecDepth 100000 in
theorem iw_1146 : (Jvm.Cond.instanceMethod ({ cls := "EngagedTone", name := "bidOf", desc := "(I)I" } : Jvm.MethodName)) ∈ ia_T := ia_in5 (List.mem_of_getElem? (i := 76) rfl) rfl
set_option maxRecDepth 100000 in
theorem iw_1147 : (Jvm.Cond.code ({ cls := "EngagedTone", name := "bidOf", desc := "(I)I" } : Jvm.MethodName) prog_1_method_30_code (2 : Nat) (Option.some Jvm.ClassFile.FieldType.int)) ∈ ia_T := ia_in5 (List.mem_of_getElem? (i := 77) rfl) rfl
set_option maxRecDepth 100000 in
theorem iw_1148 : (Jvm.Cond.methodLink "EngagedTone" (291 : Nat) ({ cls := "java/lang/Math", name := "min", desc := "(II)I" } : Jvm.MethodName)) ∈ ia_T := ia_in5 (List.mem_of_getElem? (i := 78) rfl) rfl
set_option maxRecDepth 100000 in
theorem iw_1149 : (Jvm.Cond.methodLink "EngagedToneLaw" (124 : Nat) ({ cls := "EngagedTone", name := "part", desc := "(III)I" } : Jvm.MethodName)) ∈ ia_T := ia_in5 (List.mem_of_getElem? (i := 79) rfl) rfl
set_option maxRecDepth 100000 in
theorem iw_1150 : (Jvm.Cond.instanceMethod ({ cls := "EngagedTone", name := "part", desc := "(III)I" } : Jvm.MethodName)) ∈ ia_T := ia_in5 (List.mem_of_getElem? (i := 80) rfl) rfl
set_option maxRecDepth 100000 in
theorem iw_1151 : (Jvm.Cond.selects "EngagedTone" ({ cls := "EngagedTone", name := "part", desc := "(III)I" } : Jvm.MethodName) ({ cls := "EngagedTone", name := "part", desc := "(III)I" } : Jvm.MethodName)) ∈ ia_T := ia_in5 (List.mem_of_getElem? (i := 81) rfl) rfl
set_option maxRecDepth 100000 in
theorem iw_1152 : (Jvm.Cond.code ({ cls := "EngagedTone", name := "part", desc := "(III)I" } : Jvm.MethodName) prog_1_method_31_code (6 : Nat) (Option.some Jvm.ClassFile.FieldType.int)) ∈ ia_T := ia_in5 (List.mem_of_getElem? (i := 82) rfl) rfl
set_option maxRecDepth 100000 in
theorem iw_1153 : (Jvm.Cond.methodLink "EngagedTone" (296 : Nat) ({ cls := "EngagedTone$Foresight", name := "engagedIn", desc := "(II)I" } : Jvm.MethodName)) ∈ ia_T := ia_in5 (List.mem_of_getElem? (i := 83) rfl) rfl
set_option maxRecDepth 100000 in
theorem iw_1154 : (Jvm.Cond.instanceMethod ({ cls := "EngagedTone$Foresight", name := "engagedIn", desc := "(II)I" } : Jvm.MethodName)) ∈ ia_T := ia_in5 (List.mem_of_getElem? (i := 84) rfl) rfl
set_option maxRecDepth 100000 in
theorem iw_1155 : (Jvm.Cond.selects "EngagedTone$Foresight" ({ cls := "EngagedTone$Foresight", name := "engagedIn", desc := "(II)I" } : Jvm.MethodName) ({ cls := "EngagedTone$Foresight", name := "engagedIn", desc := "(II)I" } : Jvm.MethodName)) ∈ ia_T := ia_in5 (List.mem_of_getElem? (i := 85) rfl) rfl
set_option maxRecDepth 100000 in
theorem iw_1156 : (Jvm.Cond.code ({ cls := "EngagedTone$Foresight", name := "engagedIn", desc := "(II)I" } : Jvm.MethodName) prog_4_method_7_code (5 : Nat) (Option.some Jvm.ClassFile.FieldType.int)) ∈ ia_T := ia_in5 (List.mem_of_getElem? (i := 86) rfl) rfl
set_option maxRecDepth 100000 in
theorem iw_1157 : (Jvm.Cond.methodLink "EngagedTone$Foresight" (48 : Nat) ({ cls := "EngagedTone$World", name := "engaged", desc := "()I" } : Jvm.MethodName)) ∈ ia_T := ia_in5 (List.mem_of_getElem? (i := 87) rfl) rfl
set_option maxRecDepth 100000 in
theorem iw_1158 : (Jvm.Cond.methodLink "EngagedTone" (299 : Nat) ({ cls := "EngagedTone", name := "greatestCommon", desc := "(II)I" } : Jvm.MethodName)) ∈ ia_T := ia_in5 (List.mem_of_getElem? (i := 88) rfl) rfl
set_option maxRecDepth 100000 in
theorem iw_1159 : (Jvm.Cond.static ({ cls := "EngagedTone", name := "greatestCommon", desc := "(II)I" } : Jvm.MethodName)) ∈ ia_T := ia_in5 (List.mem_of_getElem? (i := 89) rfl) rfl
set_option maxRecDepth 100000 in
theorem iw_1160 : (Jvm.Cond.code ({ cls := "EngagedTone", name := "greatestCommon", desc := "(II)I" } : Jvm.MethodName) prog_1_method_32_code (6 : Nat) (Option.some Jvm.ClassFile.FieldType.int)) ∈ ia_T := ia_in5 (List.mem_of_getElem? (i := 90) rfl) rfl
set_option maxRecDepth 100000 in
theorem iw_1161 : (Jvm.Cond.methodLink "EngagedToneLaw" (128 : Nat) ({ cls := "EngagedTone", name := "round", desc := "(II)I" } : Jvm.MethodName)) ∈ ia_T := ia_in5 (List.mem_of_getElem? (i := 91) rfl) rfl
set_option maxRecDepth 100000 in
theorem iw_1162 : (Jvm.Cond.instanceMethod ({ cls := "EngagedTone", name := "round", desc := "(II)I" } : Jvm.MethodName)) ∈ ia_T := ia_in5 (List.mem_of_getElem? (i := 92) rfl) rfl
set_option maxRecDepth 100000 in
theorem iw_1163 : (Jvm.Cond.selects "EngagedTone" ({ cls := "EngagedTone", name := "round", desc := "(II)I" } : Jvm.MethodName) ({ cls := "EngagedTone", name := "round", desc := "(II)I" } : Jvm.MethodName)) ∈ ia_T := ia_in5 (List.mem_of_getElem? (i := 93) rfl) rfl
set_option maxRecDepth 100000 in
theorem iw_1164 : (Jvm.Cond.code ({ cls := "EngagedTone", name := "round", desc := "(II)I" } : Jvm.MethodName) prog_1_method_33_code (5 : Nat) (Option.some Jvm.ClassFile.FieldType.int)) ∈ ia_T := ia_in5 (List.mem_of_getElem? (i := 94) rfl) rfl
set_option maxRecDepth 100000 in
theorem iw_1165 : (Jvm.Cond.methodLink "EngagedTone" (302 : Nat) ({ cls := "EngagedTone$World", name := "calledWith", desc := "(I)I" } : Jvm.MethodName)) ∈ ia_T := ia_in5 (List.mem_of_getElem? (i := 95) rfl) rfl
set_option maxRecDepth 100000 in
theorem iw_1166 : (Jvm.Cond.instanceMethod ({ cls := "EngagedTone$World", name := "calledWith", desc := "(I)I" } : Jvm.MethodName)) ∈ ia_T := ia_in5 (List.mem_of_getElem? (i := 96) rfl) rfl
set_option maxRecDepth 100000 in
theorem iw_1167 : (Jvm.Cond.selects "EngagedTone$World" ({ cls := "EngagedTone$World", name := "calledWith", desc := "(I)I" } : Jvm.MethodName) ({ cls := "EngagedTone$World", name := "calledWith", desc := "(I)I" } : Jvm.MethodName)) ∈ ia_T := ia_in5 (List.mem_of_getElem? (i := 97) rfl) rfl
set_option maxRecDepth 100000 in
theorem iw_1168 : (Jvm.Cond.code ({ cls := "EngagedTone$World", name := "calledWith", desc := "(I)I" } : Jvm.MethodName) prog_10_method_15_code (5 : Nat) (Option.some Jvm.ClassFile.FieldType.int)) ∈ ia_T := ia_in5 (List.mem_of_getElem? (i := 98) rfl) rfl
set_option maxRecDepth 100000 in
theorem iw_1169 : (Jvm.Cond.methodLink "EngagedTone$World" (78 : Nat) ({ cls := "EngagedTone$World", name := "isThrough", desc := "(I)Z" } : Jvm.MethodName)) ∈ ia_T := ia_in5 (List.mem_of_getElem? (i := 99) rfl) rfl
set_option maxRecDepth 100000 in
theorem iw_1170 : (Jvm.Cond.methodLink "EngagedToneLaw" (132 : Nat) ({ cls := "EngagedTone", name := "busiest", desc := "()I" } : Jvm.MethodName)) ∈ ia_T := ia_in5 (List.mem_of_getElem? (i := 100) rfl) rfl
set_option maxRecDepth 100000 in
theorem iw_1171 : (Jvm.Cond.instanceMethod ({ cls := "EngagedTone", name := "busiest", desc := "()I" } : Jvm.MethodName)) ∈ ia_T := ia_in5 (List.mem_of_getElem? (i := 101) rfl) rfl
set_option maxRecDepth 100000 in
theorem iw_1172 : (Jvm.Cond.selects "EngagedTone" ({ cls := "EngagedTone", name := "busiest", desc := "()I" } : Jvm.MethodName) ({ cls := "EngagedTone", name := "busiest", desc := "()I" } : Jvm.MethodName)) ∈ ia_T := ia_in5 (List.mem_of_getElem? (i := 102) rfl) rfl
set_option maxRecDepth 100000 in
theorem iw_1173 : (Jvm.Cond.code ({ cls := "EngagedTone", name := "busiest", desc := "()I" } : Jvm.MethodName) prog_1_method_34_code (4 : Nat) (Option.some Jvm.ClassFile.FieldType.int)) ∈ ia_T := ia_in5 (List.mem_of_getElem? (i := 103) rfl) rfl
set_option maxRecDepth 100000 in
theorem iw_1174 : (Jvm.Cond.methodLink "EngagedToneLaw" (136 : Nat) ({ cls := "EngagedTone", name := "hard", desc := "(I)I" } : Jvm.MethodName)) ∈ ia_T := ia_in5 (List.mem_of_getElem? (i := 104) rfl) rfl
set_option maxRecDepth 100000 in
theorem iw_1175 : (Jvm.Cond.instanceMethod ({ cls := "EngagedTone", name := "hard", desc := "(I)I" } : Jvm.MethodName)) ∈ ia_T := ia_in5 (List.mem_of_getElem? (i := 105) rfl) rfl
set_option maxRecDepth 100000 in
theorem iw_1176 : (Jvm.Cond.selects "EngagedTone" ({ cls := "EngagedTone", name := "hard", desc := "(I)I" } : Jvm.MethodName) ({ cls := "EngagedTone", name := "hard", desc := "(I)I" } : Jvm.MethodName)) ∈ ia_T := ia_in5 (List.mem_of_getElem? (i := 106) rfl) rfl
set_option maxRecDepth 100000 in
theorem iw_1177 : (Jvm.Cond.code ({ cls := "EngagedTone", name := "hard", desc := "(I)I" } : Jvm.MethodName) prog_1_method_35_code (4 : Nat) (Option.some Jvm.ClassFile.FieldType.int)) ∈ ia_T := ia_in5 (List.mem_of_getElem? (i := 107) rfl) rfl
set_option maxRecDepth 100000 in
theorem iw_1178 : (Jvm.Cond.methodLink "EngagedToneLaw" (140 : Nat) ({ cls := "EngagedTone", name := "hear", desc := "(IIZ)I" } : Jvm.MethodName)) ∈ ia_T := ia_in5 (List.mem_of_getElem? (i := 108) rfl) rfl
set_option maxRecDepth 100000 in
theorem iw_1179 : (Jvm.Cond.instanceMethod ({ cls := "EngagedTone", name := "hear", desc := "(IIZ)I" } : Jvm.MethodName)) ∈ ia_T := ia_in5 (List.mem_of_getElem? (i := 109) rfl) rfl
set_option maxRecDepth 100000 in
theorem iw_1180 : (Jvm.Cond.selects "EngagedTone" ({ cls := "EngagedTone", name := "hear", desc := "(IIZ)I" } : Jvm.MethodName) ({ cls := "EngagedTone", name := "hear", desc := "(IIZ)I" } : Jvm.MethodName)) ∈ ia_T := ia_in5 (List.mem_of_getElem? (i := 110) rfl) rfl
set_option maxRecDepth 100000 in
theorem iw_1181 : (Jvm.Cond.code ({ cls := "EngagedTone", name := "hear", desc := "(IIZ)I" } : Jvm.MethodName) prog_1_method_36_code (4 : Nat) (Option.some Jvm.ClassFile.FieldType.int)) ∈ ia_T := ia_in5 (List.mem_of_getElem? (i := 111) rfl) rfl
set_option maxRecDepth 100000 in
theorem iw_1182 : (Jvm.Cond.methodLink "EngagedTone" (308 : Nat) ({ cls := "EngagedTone$Rumours", name := "add", desc := "(III)I" } : Jvm.MethodName)) ∈ ia_T := ia_in5 (List.mem_of_getElem? (i := 112) rfl) rfl
set_option maxRecDepth 100000 in
theorem iw_1183 : (Jvm.Cond.instanceMethod ({ cls := "EngagedTone$Rumours", name := "add", desc := "(III)I" } : Jvm.MethodName)) ∈ ia_T := ia_in5 (List.mem_of_getElem? (i := 113) rfl) rfl
set_option maxRecDepth 100000 in
theorem iw_1184 : (Jvm.Cond.selects "EngagedTone$Rumours" ({ cls := "EngagedTone$Rumours", name := "add", desc := "(III)I" } : Jvm.MethodName) ({ cls := "EngagedTone$Rumours", name := "add", desc := "(III)I" } : Jvm.MethodName)) ∈ ia_T := ia_in5 (List.mem_of_getElem? (i := 114) rfl) rfl
set_option maxRecDepth 100000 in
theorem iw_1185 : (Jvm.Cond.code ({ cls := "EngagedTone$Rumours", name := "add", desc := "(III)I" } : Jvm.MethodName) prog_7_method_3_code (4 : Nat) (Option.some Jvm.ClassFile.FieldType.int)) ∈ ia_T := ia_in5 (List.mem_of_getElem? (i := 115) rfl) rfl
set_option maxRecDepth 100000 in
theorem iw_1186 : (Jvm.Cond.methodLink "EngagedToneLaw" (145 : Nat) ({ cls := "EngagedTone", name := "out", desc := "(I)I" } : Jvm.MethodName)) ∈ ia_T := ia_in5 (List.mem_of_getElem? (i := 116) rfl) rfl
set_option maxRecDepth 100000 in
theorem iw_1187 : (Jvm.Cond.instanceMethod ({ cls := "EngagedTone", name := "out", desc := "(I)I" } : Jvm.MethodName)) ∈ ia_T := ia_in5 (List.mem_of_getElem? (i := 117) rfl) rfl
set_option maxRecDepth 100000 in
theorem iw_1188 : (Jvm.Cond.selects "EngagedTone" ({ cls := "EngagedTone", name := "out", desc := "(I)I" } : Jvm.MethodName) ({ cls := "EngagedTone", name := "out", desc := "(I)I" } : Jvm.MethodName)) ∈ ia_T := ia_in5 (List.mem_of_getElem? (i := 118) rfl) rfl
set_option maxRecDepth 100000 in
theorem iw_1189 : (Jvm.Cond.code ({ cls := "EngagedTone", name := "out", desc := "(I)I" } : Jvm.MethodName) prog_1_method_37_code (2 : Nat) (Option.some Jvm.ClassFile.FieldType.int)) ∈ ia_T := ia_in5 (List.mem_of_getElem? (i := 119) rfl) rfl
set_option maxRecDepth 100000 in
theorem iw_1190 : (Jvm.Cond.methodLink "EngagedToneLaw" (149 : Nat) ({ cls := "EngagedTone", name := "known", desc := "(I)Z" } : Jvm.MethodName)) ∈ ia_T := ia_in5 (List.mem_of_getElem? (i := 120) rfl) rfl
set_option maxRecDepth 100000 in
theorem iw_1191 : (Jvm.Cond.instanceMethod ({ cls := "EngagedTone", name := "known", desc := "(I)Z" } : Jvm.MethodName)) ∈ ia_T := ia_in5 (List.mem_of_getElem? (i := 121) rfl) rfl
set_option maxRecDepth 100000 in
theorem iw_1192 : (Jvm.Cond.selects "EngagedTone" ({ cls := "EngagedTone", name := "known", desc := "(I)Z" } : Jvm.MethodName) ({ cls := "EngagedTone", name := "known", desc := "(I)Z" } : Jvm.MethodName)) ∈ ia_T := ia_in5 (List.mem_of_getElem? (i := 122) rfl) rfl
set_option maxRecDepth 100000 in
theorem iw_1193 : (Jvm.Cond.code ({ cls := "EngagedTone", name := "known", desc := "(I)Z" } : Jvm.MethodName) prog_1_method_38_code (2 : Nat) (Option.some Jvm.ClassFile.FieldType.boolean)) ∈ ia_T := ia_in5 (List.mem_of_getElem? (i := 123) rfl) rfl
set_option maxRecDepth 100000 in
theorem iw_1194 : (Jvm.Cond.methodLink "EngagedToneLaw" (154 : Nat) ({ cls := "EngagedTone", name := "spans", desc := "(I)I" } : Jvm.MethodName)) ∈ ia_T := ia_in5 (List.mem_of_getElem? (i := 124) rfl) rfl
set_option maxRecDepth 100000 in
theorem iw_1195 : (Jvm.Cond.instanceMethod ({ cls := "EngagedTone", name := "spans", desc := "(I)I" } : Jvm.MethodName)) ∈ ia_T := ia_in5 (List.mem_of_getElem? (i := 125) rfl) rfl
set_option maxRecDepth 100000 in
theorem iw_1196 : (Jvm.Cond.selects "EngagedTone" ({ cls := "EngagedTone", name := "spans", desc := "(I)I" } : Jvm.MethodName) ({ cls := "EngagedTone", name := "spans", desc := "(I)I" } : Jvm.MethodName)) ∈ ia_T := ia_in5 (List.mem_of_getElem? (i := 126) rfl) rfl
set_option maxRecDepth 100000 in
theorem iw_1197 : (Jvm.Cond.code ({ cls := "EngagedTone", name := "spans", desc := "(I)I" } : Jvm.MethodName) prog_1_method_39_code (4 : Nat) (Option.some Jvm.ClassFile.FieldType.int)) ∈ ia_T := ia_in5 (List.mem_of_getElem? (i := 127) rfl) rfl
set_option maxRecDepth 100000 in
theorem iw_1198 : (Jvm.Cond.methodLink "EngagedTone" (316 : Nat) ({ cls := "EngagedTone$Rumours", name := "judge", desc := "()V" } : Jvm.MethodName)) ∈ ia_T := ia_in5 (List.mem_of_getElem? (i := 128) rfl) rfl
set_option maxRecDepth 100000 in
theorem iw_1199 : (Jvm.Cond.instanceMethod ({ cls := "EngagedTone$Rumours", name := "judge", desc := "()V" } : Jvm.MethodName)) ∈ ia_T := ia_in5 (List.mem_of_getElem? (i := 129) rfl) rfl
set_option maxRecDepth 100000 in
theorem iw_1200 : (Jvm.Cond.selects "EngagedTone$Rumours" ({ cls := "EngagedTone$Rumours", name := "judge", desc := "()V" } : Jvm.MethodName) ({ cls := "EngagedTone$Rumours", name := "judge", desc := "()V" } : Jvm.MethodName)) ∈ ia_T := ia_in5 (List.mem_of_getElem? (i := 130) rfl) rfl
set_option maxRecDepth 100000 in
theorem iw_1201 : (Jvm.Cond.code ({ cls := "EngagedTone$Rumours", name := "judge", desc := "()V" } : Jvm.MethodName) prog_7_method_5_code (3 : Nat) (Option.none : Option Jvm.ClassFile.FieldType)) ∈ ia_T := ia_in5 (List.mem_of_getElem? (i := 131) rfl) rfl
set_option maxRecDepth 100000 in
theorem iw_1202 : (Jvm.Cond.methodLink "EngagedTone$Rumours" (32 : Nat) ({ cls := "EngagedTone$Rumours", name := "believedCount", desc := "()I" } : Jvm.MethodName)) ∈ ia_T := ia_in5 (List.mem_of_getElem? (i := 132) rfl) rfl
set_option maxRecDepth 100000 in
theorem iw_1203 : (Jvm.Cond.instanceMethod ({ cls := "EngagedTone$Rumours", name := "believedCount", desc := "()I" } : Jvm.MethodName)) ∈ ia_T := ia_in5 (List.mem_of_getElem? (i := 133) rfl) rfl
set_option maxRecDepth 100000 in
theorem iw_1204 : (Jvm.Cond.selects "EngagedTone$Rumours" ({ cls := "EngagedTone$Rumours", name := "believedCount", desc := "()I" } : Jvm.MethodName) ({ cls := "EngagedTone$Rumours", name := "believedCount", desc := "()I" } : Jvm.MethodName)) ∈ ia_T := ia_in5 (List.mem_of_getElem? (i := 134) rfl) rfl
set_option maxRecDepth 100000 in
theorem iw_1205 : (Jvm.Cond.code ({ cls := "EngagedTone$Rumours", name := "believedCount", desc := "()I" } : Jvm.MethodName) prog_7_method_4_code (1 : Nat) (Option.some Jvm.ClassFile.FieldType.int)) ∈ ia_T := ia_in5 (List.mem_of_getElem? (i := 135) rfl) rfl
set_option maxRecDepth 100000 in
theorem iw_1206 : (Jvm.Cond.methodLink "EngagedTone" (319 : Nat) ({ cls := "EngagedTone$Foresight", name := "bearsOut", desc := "(LEngagedTone$Rumours;)Z" } : Jvm.MethodName)) ∈ ia_T := ia_in5 (List.mem_of_getElem? (i := 136) rfl) rfl
set_option maxRecDepth 100000 in
theorem iw_1207 : (Jvm.Cond.instanceMethod ({ cls := "EngagedTone$Foresight", name := "bearsOut", desc := "(LEngagedTone$Rumours;)Z" } : Jvm.MethodName)) ∈ ia_T := ia_in5 (List.mem_of_getElem? (i := 137) rfl) rfl
set_option maxRecDepth 100000 in
theorem iw_1208 : (Jvm.Cond.selects "EngagedTone$Foresight" ({ cls := "EngagedTone$Foresight", name := "bearsOut", desc := "(LEngagedTone$Rumours;)Z" } : Jvm.MethodName) ({ cls := "EngagedTone$Foresight", name := "bearsOut", desc := "(LEngagedTone$Rumours;)Z" } : Jvm.MethodName)) ∈ ia_T := ia_in5 (List.mem_of_getElem? (i := 138) rfl) rfl
set_option maxRecDepth 100000 in
theorem iw_1209 : (Jvm.Cond.code ({ cls := "EngagedTone$Foresight", name := "bearsOut", desc := "(LEngagedTone$Rumours;)Z" } : Jvm.MethodName) prog_4_method_10_code (4 : Nat) (Option.some Jvm.ClassFile.FieldType.boolean)) ∈ ia_T := ia_in5 (List.mem_of_getElem? (i := 139) rfl) rfl
set_option maxRecDepth 100000 in
theorem iw_1210 : (Jvm.Cond.methodLink "EngagedTone$Foresight" (69 : Nat) ({ cls := "EngagedTone$Rumours", name := "lastQuarter", desc := "()I" } : Jvm.MethodName)) ∈ ia_T := ia_in5 (List.mem_of_getElem? (i := 140) rfl) rfl
set_option maxRecDepth 100000 in
theorem iw_1211 : (Jvm.Cond.instanceMethod ({ cls := "EngagedTone$Rumours", name := "lastQuarter", desc := "()I" } : Jvm.MethodName)) ∈ ia_T := ia_in5 (List.mem_of_getElem? (i := 141) rfl) rfl
set_option maxRecDepth 100000 in
theorem iw_1212 : (Jvm.Cond.selects "EngagedTone$Rumours" ({ cls := "EngagedTone$Rumours", name := "lastQuarter", desc := "()I" } : Jvm.MethodName) ({ cls := "EngagedTone$Rumours", name := "lastQuarter", desc := "()I" } : Jvm.MethodName)) ∈ ia_T := ia_in5 (List.mem_of_getElem? (i := 142) rfl) rfl
set_option maxRecDepth 100000 in
theorem iw_1213 : (Jvm.Cond.code ({ cls := "EngagedTone$Rumours", name := "lastQuarter", desc := "()I" } : Jvm.MethodName) prog_7_method_7_code (4 : Nat) (Option.some Jvm.ClassFile.FieldType.int)) ∈ ia_T := ia_in5 (List.mem_of_getElem? (i := 143) rfl) rfl
set_option maxRecDepth 100000 in
theorem iw_1214 : (Jvm.Cond.methodLink "EngagedTone$Rumours" (36 : Nat) ({ cls := "EngagedTone$Rumours", name := "counts", desc := "(I)Z" } : Jvm.MethodName)) ∈ ia_T := ia_in5 (List.mem_of_getElem? (i := 144) rfl) rfl
set_option maxRecDepth 100000 in
theorem iw_1216 : (Jvm.Cond.instanceMethod ({ cls := "EngagedTone$Rumours", name := "counts", desc := "(I)Z" } : Jvm.MethodName)) ∈ ia_T := ia_in5 (List.mem_of_getElem? (i := 146) rfl) rfl
set_option maxRecDepth 100000 in
theorem iw_1217 : (Jvm.Cond.code ({ cls := "EngagedTone$Rumours", name := "counts", desc := "(I)Z" } : Jvm.MethodName) prog_7_method_6_code (2 : Nat) (Option.some Jvm.ClassFile.FieldType.boolean)) ∈ ia_T := ia_in5 (List.mem_of_getElem? (i := 147) rfl) rfl
set_option maxRecDepth 100000 in
theorem iw_1218 : (Jvm.Cond.methodLink "EngagedTone$Rumours" (40 : Nat) ({ cls := "java/lang/Math", name := "max", desc := "(II)I" } : Jvm.MethodName)) ∈ ia_T := ia_in5 (List.mem_of_getElem? (i := 148) rfl) rfl
set_option maxRecDepth 100000 in
theorem iw_1219 : (Jvm.Cond.methodLink "EngagedTone$Foresight" (74 : Nat) ({ cls := "EngagedTone$Rumours", name := "agree", desc := "(II)Z" } : Jvm.MethodName)) ∈ ia_T := ia_in5 (List.mem_of_getElem? (i := 149) rfl) rfl
set_option maxRecDepth 100000 in
theorem iw_1220 : (Jvm.Cond.instanceMethod ({ cls := "EngagedTone$Rumours", name := "agree", desc := "(II)Z" } : Jvm.MethodName)) ∈ ia_T := ia_in5 (List.mem_of_getElem? (i := 150) rfl) rfl
set_option maxRecDepth 100000 in
theorem iw_1221 : (Jvm.Cond.selects "EngagedTone$Rumours" ({ cls := "EngagedTone$Rumours", name := "agree", desc := "(II)Z" } : Jvm.MethodName) ({ cls := "EngagedTone$Rumours", name := "agree", desc := "(II)Z" } : Jvm.MethodName)) ∈ ia_T := ia_in5 (List.mem_of_getElem? (i := 151) rfl) rfl
set_option maxRecDepth 100000 in
theorem iw_1222 : (Jvm.Cond.code ({ cls := "EngagedTone$Rumours", name := "agree", desc := "(II)Z" } : Jvm.MethodName) prog_7_method_8_code (5 : Nat) (Option.some Jvm.ClassFile.FieldType.boolean)) ∈ ia_T := ia_in5 (List.mem_of_getElem? (i := 152) rfl) rfl
set_option maxRecDepth 100000 in
theorem iw_1223 : (Jvm.Cond.methodLink "EngagedToneLaw" (158 : Nat) ({ cls := "EngagedTone", name := "chance", desc := "(III)I" } : Jvm.MethodName)) ∈ ia_T := ia_in5 (List.mem_of_getElem? (i := 153) rfl) rfl
set_option maxRecDepth 100000 in
theorem iw_1224 : (Jvm.Cond.instanceMethod ({ cls := "EngagedTone", name := "chance", desc := "(III)I" } : Jvm.MethodName)) ∈ ia_T := ia_in5 (List.mem_of_getElem? (i := 154) rfl) rfl
set_option maxRecDepth 100000 in
theorem iw_1225 : (Jvm.Cond.selects "EngagedTone" ({ cls := "EngagedTone", name := "chance", desc := "(III)I" } : Jvm.MethodName) ({ cls := "EngagedTone", name := "chance", desc := "(III)I" } : Jvm.MethodName)) ∈ ia_T := ia_in5 (List.mem_of_getElem? (i := 155) rfl) rfl
set_option maxRecDepth 100000 in
theorem iw_1226 : (Jvm.Cond.code ({ cls := "EngagedTone", name := "chance", desc := "(III)I" } : Jvm.MethodName) prog_1_method_40_code (8 : Nat) (Option.some Jvm.ClassFile.FieldType.int)) ∈ ia_T := ia_in5 (List.mem_of_getElem? (i := 156) rfl) rfl
set_option maxRecDepth 100000 in
theorem iw_1227 : (Jvm.Cond.methodLink "EngagedToneLaw" (162 : Nat) ({ cls := "EngagedTone", name := "tried", desc := "(III)I" } : Jvm.MethodName)) ∈ ia_T := ia_in5 (List.mem_of_getElem? (i := 157) rfl) rfl
set_option maxRecDepth 100000 in
theorem iw_1228 : (Jvm.Cond.instanceMethod ({ cls := "EngagedTone", name := "tried", desc := "(III)I" } : Jvm.MethodName)) ∈ ia_T := ia_in5 (List.mem_of_getElem? (i := 158) rfl) rfl
set_option maxRecDepth 100000 in
theorem iw_1229 : (Jvm.Cond.selects "EngagedTone" ({ cls := "EngagedTone", name := "tried", desc := "(III)I" } : Jvm.MethodName) ({ cls := "EngagedTone", name := "tried", desc := "(III)I" } : Jvm.MethodName)) ∈ ia_T := ia_in5 (List.mem_of_getElem? (i := 159) rfl) rfl
set_option maxRecDepth 100000 in
theorem iw_1230 : (Jvm.Cond.code ({ cls := "EngagedTone", name := "tried", desc := "(III)I" } : Jvm.MethodName) prog_1_method_41_code (4 : Nat) (Option.some Jvm.ClassFile.FieldType.int)) ∈ ia_T := ia_in5 (List.mem_of_getElem? (i := 160) rfl) rfl
set_option maxRecDepth 100000 in
theorem iw_1231 : (Jvm.Cond.methodLink "EngagedToneLaw" (166 : Nat) ({ cls := "EngagedTone", name := "undo", desc := "()I" } : Jvm.MethodName)) ∈ ia_T := ia_in5 (List.mem_of_getElem? (i := 161) rfl) rfl
set_option maxRecDepth 100000 in
theorem iw_1232 : (Jvm.Cond.instanceMethod ({ cls := "EngagedTone", name := "undo", desc := "()I" } : Jvm.MethodName)) ∈ ia_T := ia_in5 (List.mem_of_getElem? (i := 162) rfl) rfl
set_option maxRecDepth 100000 in
theorem iw_1233 : (Jvm.Cond.selects "EngagedTone" ({ cls := "EngagedTone", name := "undo", desc := "()I" } : Jvm.MethodName) ({ cls := "EngagedTone", name := "undo", desc := "()I" } : Jvm.MethodName)) ∈ ia_T := ia_in5 (List.mem_of_getElem? (i := 163) rfl) rfl
set_option maxRecDepth 100000 in
theorem iw_1234 : (Jvm.Cond.code ({ cls := "EngagedTone", name := "undo", desc := "()I" } : Jvm.MethodName) prog_1_method_42_code (2 : Nat) (Option.some Jvm.ClassFile.FieldType.int)) ∈ ia_T := ia_in5 (List.mem_of_getElem? (i := 164) rfl) rfl
set_option maxRecDepth 100000 in
theorem iw_1235 : (Jvm.Cond.methodLink "EngagedTone" (339 : Nat) ({ cls := "EngagedTone$Deeds", name := "takeLatest", desc := "()Z" } : Jvm.MethodName)) ∈ ia_T := ia_in5 (List.mem_of_getElem? (i := 165) rfl) rfl
set_option maxRecDepth 100000 in
theorem iw_1236 : (Jvm.Cond.instanceMethod ({ cls := "EngagedTone$Deeds", name := "takeLatest", desc := "()Z" } : Jvm.MethodName)) ∈ ia_T := ia_in5 (List.mem_of_getElem? (i := 166) rfl) rfl
set_option maxRecDepth 100000 in
theorem iw_1237 : (Jvm.Cond.selects "EngagedTone$Deeds" ({ cls := "EngagedTone$Deeds", name := "takeLatest", desc := "()Z" } : Jvm.MethodName) ({ cls := "EngagedTone$Deeds", name := "takeLatest", desc := "()Z" } : Jvm.MethodName)) ∈ ia_T := ia_in5 (List.mem_of_getElem? (i := 167) rfl) rfl
set_option maxRecDepth 100000 in
theorem iw_1238 : (Jvm.Cond.code ({ cls := "EngagedTone$Deeds", name := "takeLatest", desc := "()Z" } : Jvm.MethodName) prog_2_method_5_code (1 : Nat) (Option.some Jvm.ClassFile.FieldType.boolean)) ∈ ia_T := ia_in5 (List.mem_of_getElem? (i := 168) rfl) rfl
set_option maxRecDepth 100000 in
theorem iw_1239 : (Jvm.Cond.methodLink "EngagedTone" (349 : Nat) ({ cls := "EngagedTone$World", name := "dropTone", desc := "()V" } : Jvm.MethodName)) ∈ ia_T := ia_in5 (List.mem_of_getElem? (i := 169) rfl) rfl
set_option maxRecDepth 100000 in
theorem iw_1240 : (Jvm.Cond.instanceMethod ({ cls := "EngagedTone$World", name := "dropTone", desc := "()V" } : Jvm.MethodName)) ∈ ia_T := ia_in5 (List.mem_of_getElem? (i := 170) rfl) rfl
set_option maxRecDepth 100000 in
theorem iw_1241 : (Jvm.Cond.selects "EngagedTone$World" ({ cls := "EngagedTone$World", name := "dropTone", desc := "()V" } : Jvm.MethodName) ({ cls := "EngagedTone$World", name := "dropTone", desc := "()V" } : Jvm.MethodName)) ∈ ia_T := ia_in5 (List.mem_of_getElem? (i := 171) rfl) rfl
set_option maxRecDepth 100000 in
theorem iw_1242 : (Jvm.Cond.code ({ cls := "EngagedTone$World", name := "dropTone", desc := "()V" } : Jvm.MethodName) prog_10_method_5_code (1 : Nat) (Option.none : Option Jvm.ClassFile.FieldType)) ∈ ia_T := ia_in5 (List.mem_of_getElem? (i := 172) rfl) rfl
set_option maxRecDepth 100000 in
theorem iw_1243 : (Jvm.Cond.methodLink "EngagedToneLaw" (170 : Nat) ({ cls := "EngagedTone", name := "keep", desc := "()I" } : Jvm.MethodName)) ∈ ia_T := ia_in5 (List.mem_of_getElem? (i := 173) rfl) rfl
set_option maxRecDepth 100000 in
theorem iw_1244 : (Jvm.Cond.instanceMethod ({ cls := "EngagedTone", name := "keep", desc := "()I" } : Jvm.MethodName)) ∈ ia_T := ia_in5 (List.mem_of_getElem? (i := 174) rfl) rfl
set_option maxRecDepth 100000 in
theorem iw_1245 : (Jvm.Cond.selects "EngagedTone" ({ cls := "EngagedTone", name := "keep", desc := "()I" } : Jvm.MethodName) ({ cls := "EngagedTone", name := "keep", desc := "()I" } : Jvm.MethodName)) ∈ ia_T := ia_in5 (List.mem_of_getElem? (i := 175) rfl) rfl
set_option maxRecDepth 100000 in
theorem iw_1246 : (Jvm.Cond.code ({ cls := "EngagedTone", name := "keep", desc := "()I" } : Jvm.MethodName) prog_1_method_43_code (1 : Nat) (Option.some Jvm.ClassFile.FieldType.int)) ∈ ia_T := ia_in5 (List.mem_of_getElem? (i := 176) rfl) rfl
set_option maxRecDepth 100000 in
theorem iw_1247 : (Jvm.Cond.methodLink "EngagedToneLaw" (174 : Nat) ({ cls := "EngagedTone", name := "back", desc := "()I" } : Jvm.MethodName)) ∈ ia_T := ia_in5 (List.mem_of_getElem? (i := 177) rfl) rfl
set_option maxRecDepth 100000 in
theorem iw_1248 : (Jvm.Cond.instanceMethod ({ cls := "EngagedTone", name := "back", desc := "()I" } : Jvm.MethodName)) ∈ ia_T := ia_in5 (List.mem_of_getElem? (i := 178) rfl) rfl
set_option maxRecDepth 100000 in
theorem iw_1249 : (Jvm.Cond.selects "EngagedTone" ({ cls := "EngagedTone", name := "back", desc := "()I" } : Jvm.MethodName) ({ cls := "EngagedTone", name := "back", desc := "()I" } : Jvm.MethodName)) ∈ ia_T := ia_in5 (List.mem_of_getElem? (i := 179) rfl) rfl
set_option maxRecDepth 100000 in
theorem iw_1250 : (Jvm.Cond.code ({ cls := "EngagedTone", name := "back", desc := "()I" } : Jvm.MethodName) prog_1_method_44_code (1 : Nat) (Option.some Jvm.ClassFile.FieldType.int)) ∈ ia_T := ia_in5 (List.mem_of_getElem? (i := 180) rfl) rfl
set_option maxRecDepth 100000 in
theorem iw_1251 : (Jvm.Cond.methodLink "EngagedToneLaw" (178 : Nat) ({ cls := "EngagedTone", name := "count", desc := "(I)I" } : Jvm.MethodName)) ∈ ia_T := ia_in5 (List.mem_of_getElem? (i := 181) rfl) rfl
set_option maxRecDepth 100000 in
theorem iw_1252 : (Jvm.Cond.instanceMethod ({ cls := "EngagedTone", name := "count", desc := "(I)I" } : Jvm.MethodName)) ∈ ia_T := ia_in5 (List.mem_of_getElem? (i := 182) rfl) rfl
set_option maxRecDepth 100000 in
theorem iw_1253 : (Jvm.Cond.selects "EngagedTone" ({ cls := "EngagedTone", name := "count", desc := "(I)I" } : Jvm.MethodName) ({ cls := "EngagedTone", name := "count", desc := "(I)I" } : Jvm.MethodName)) ∈ ia_T := ia_in5 (List.mem_of_getElem? (i := 183) rfl) rfl
set_option maxRecDepth 100000 in
theorem iw_1254 : (Jvm.Cond.code ({ cls := "EngagedTone", name := "count", desc := "(I)I" } : Jvm.MethodName) prog_1_method_45_code (2 : Nat) (Option.some Jvm.ClassFile.FieldType.int)) ∈ ia_T := ia_in5 (List.mem_of_getElem? (i := 184) rfl) rfl
set_option maxRecDepth 100000 in
theorem iw_1255 : (Jvm.Cond.methodLink "EngagedTone" (367 : Nat) ({ cls := "EngagedTone$World", name := "triesSoFar", desc := "()I" } : Jvm.MethodName)) ∈ ia_T := ia_in5 (List.mem_of_getElem? (i := 185) rfl) rfl
set_option maxRecDepth 100000 in
theorem iw_1256 : (Jvm.Cond.instanceMethod ({ cls := "EngagedTone$World", name := "triesSoFar", desc := "()I" } : Jvm.MethodName)) ∈ ia_T := ia_in5 (List.mem_of_getElem? (i := 186) rfl) rfl
set_option maxRecDepth 100000 in
theorem iw_1257 : (Jvm.Cond.selects "EngagedTone$World" ({ cls := "EngagedTone$World", name := "triesSoFar", desc := "()I" } : Jvm.MethodName) ({ cls := "EngagedTone$World", name := "triesSoFar", desc := "()I" } : Jvm.MethodName)) ∈ ia_T := ia_in5 (List.mem_of_getElem? (i := 187) rfl) rfl
set_option maxRecDepth 100000 in
theorem iw_1258 : (Jvm.Cond.code ({ cls := "EngagedTone$World", name := "triesSoFar", desc := "()I" } : Jvm.MethodName) prog_10_method_14_code (3 : Nat) (Option.some Jvm.ClassFile.FieldType.int)) ∈ ia_T := ia_in5 (List.mem_of_getElem? (i := 188) rfl) rfl
set_option maxRecDepth 100000 in
theorem iw_1259 : (Jvm.Cond.methodLink "EngagedTone" (370 : Nat) ({ cls := "EngagedTone$Rumours", name := "believedCount", desc := "()I" } : Jvm.MethodName)) ∈ ia_T := ia_in5 (List.mem_of_getElem? (i := 189) rfl) rfl
set_option maxRecDepth 100000 in
theorem iw_1351 : (Jvm.Cond.classLink "EngagedToneLaw" (18 : Nat) "EngagedToneModel") ∈ ia_T := ia_in6 (List.mem_of_getElem? (i := 41) rfl) rfl
set_option maxRecDepth 100000 in
theorem iw_1352 : (Jvm.Cond.instantiable "EngagedToneModel" (69 : Nat)) ∈ ia_T := ia_in6 (List.mem_of_getElem? (i := 42) rfl) rfl
set_option maxRecDepth 100000 in
theorem iw_1353 : (Jvm.Cond.methodLink "EngagedToneLaw" (20 : Nat) ({ cls := "EngagedToneModel", name := "<init>", desc := "()V" } : Jvm.MethodName)) ∈ ia_T := ia_in6 (List.mem_of_getElem? (i := 43) rfl) rfl
set_option maxRecDepth 100000 in
theorem iw_1354 : (Jvm.Cond.instanceMethod ({ cls := "EngagedToneModel", name := "<init>", desc := "()V" } : Jvm.MethodName)) ∈ ia_T := ia_in6 (List.mem_of_getElem? (i := 44) rfl) rfl
set_option maxRecDepth 100000 in
theorem iw_1355 : (Jvm.Cond.code ({ cls := "EngagedToneModel", name := "<init>", desc := "()V" } : Jvm.MethodName) prog_12_method_1_code (1 : Nat) (Option.none : Option Jvm.ClassFile.FieldType)) ∈ ia_T := ia_in6 (List.mem_of_getElem? (i := 45) rfl) rfl
set_option maxRecDepth 100000 in
theorem iw_1356 : (Jvm.Cond.methodLink "EngagedToneModel" (1 : Nat) ({ cls := "java/lang/Object", name := "<init>", desc := "()V" } : Jvm.MethodName)) ∈ ia_T := ia_in6 (List.mem_of_getElem? (i := 46) rfl) rfl
set_option maxRecDepth 100000 in
theorem iw_1357 : (Jvm.Cond.methodLink "EngagedToneModel" (148 : Nat) ({ cls := "EngagedToneModel", name := "begins", desc := "()V" } : Jvm.MethodName)) ∈ ia_T := ia_in6 (List.mem_of_getElem? (i := 47) rfl) rfl
set_option maxRecDepth 100000 in
theorem iw_1359 : (Jvm.Cond.instanceMethod ({ cls := "EngagedToneModel", name := "begins", desc := "()V" } : Jvm.MethodName)) ∈ ia_T := ia_in6 (List.mem_of_getElem? (i := 49) rfl) rfl
set_option maxRecDepth 100000 in
theorem iw_1360 : (Jvm.Cond.code ({ cls := "EngagedToneModel", name := "begins", desc := "()V" } : Jvm.MethodName) prog_12_method_43_code (1 : Nat) (Option.none : Option Jvm.ClassFile.FieldType)) ∈ ia_T := ia_in6 (List.mem_of_getElem? (i := 50) rfl) rfl
set_option maxRecDepth 100000 in
theorem iw_1361 : (Jvm.Cond.methodLink "EngagedToneModel" (337 : Nat) ({ cls := "EngagedToneModel", name := "starts", desc := "(I)V" } : Jvm.MethodName)) ∈ ia_T := ia_in6 (List.mem_of_getElem? (i := 51) rfl) rfl
set_option maxRecDepth 100000 in
theorem iw_1363 : (Jvm.Cond.instanceMethod ({ cls := "EngagedToneModel", name := "starts", desc := "(I)V" } : Jvm.MethodName)) ∈ ia_T := ia_in6 (List.mem_of_getElem? (i := 53) rfl) rfl
set_option maxRecDepth 100000 in
theorem iw_1364 : (Jvm.Cond.code ({ cls := "EngagedToneModel", name := "starts", desc := "(I)V" } : Jvm.MethodName) prog_12_method_42_code (5 : Nat) (Option.none : Option Jvm.ClassFile.FieldType)) ∈ ia_T := ia_in6 (List.mem_of_getElem? (i := 54) rfl) rfl
set_option maxRecDepth 100000 in
theorem iw_1365 : (Jvm.Cond.fieldLink "EngagedToneModel" (151 : Nat) "EngagedToneModel" "thrown" "I") ∈ ia_T := ia_in6 (List.mem_of_getElem? (i := 55) rfl) rfl
set_option maxRecDepth 100000 in
theorem iw_1366 : (Jvm.Cond.fieldLink "EngagedToneModel" (7 : Nat) "EngagedToneModel" "tape" "[I") ∈ ia_T := ia_in6 (List.mem_of_getElem? (i := 56) rfl) rfl
set_option maxRecDepth 100000 in
theorem iw_1367 : (Jvm.Cond.fieldLink "EngagedToneModel" (154 : Nat) "EngagedToneModel" "taped" "I") ∈ ia_T := ia_in6 (List.mem_of_getElem? (i := 57) rfl) rfl
set_option maxRecDepth 100000 in
theorem iw_1368 : (Jvm.Cond.fieldLink "EngagedToneModel" (13 : Nat) "EngagedToneModel" "number" "[I") ∈ ia_T := ia_in6 (List.mem_of_getElem? (i := 58) rfl) rfl
set_option maxRecDepth 100000 in
theorem iw_1369 : (Jvm.Cond.fieldLink "EngagedToneModel" (16 : Nat) "EngagedToneModel" "manName" "[I") ∈ ia_T := ia_in6 (List.mem_of_getElem? (i := 59) rfl) rfl
set_option maxRecDepth 100000 in
theorem iw_1370 : (Jvm.Cond.fieldLink "EngagedToneModel" (19 : Nat) "EngagedToneModel" "vainOf" "[I") ∈ ia_T := ia_in6 (List.mem_of_getElem? (i := 60) rfl) rfl
set_option maxRecDepth 100000 in
theorem iw_1371 : (Jvm.Cond.fieldLink "EngagedToneModel" (22 : Nat) "EngagedToneModel" "purseAs" "[I") ∈ ia_T := ia_in6 (List.mem_of_getElem? (i := 61) rfl) rfl
set_option maxRecDepth 100000 in
theorem iw_1372 : (Jvm.Cond.fieldLink "EngagedToneModel" (25 : Nat) "EngagedToneModel" "toneMan" "[I") ∈ ia_T := ia_in6 (List.mem_of_getElem? (i := 62) rfl) rfl
set_option maxRecDepth 100000 in
theorem iw_1373 : (Jvm.Cond.fieldLink "EngagedToneModel" (28 : Nat) "EngagedToneModel" "toneFrom" "[I") ∈ ia_T := ia_in6 (List.mem_of_getElem? (i := 63) rfl) rfl
set_option maxRecDepth 100000 in
theorem iw_1374 : (Jvm.Cond.fieldLink "EngagedToneModel" (31 : Nat) "EngagedToneModel" "toneMany" "[I") ∈ ia_T := ia_in6 (List.mem_of_getElem? (i := 64) rfl) rfl
set_option maxRecDepth 100000 in
theorem iw_1375 : (Jvm.Cond.fieldLink "EngagedToneModel" (34 : Nat) "EngagedToneModel" "priceFrom" "[I") ∈ ia_T := ia_in6 (List.mem_of_getElem? (i := 65) rfl) rfl
set_option maxRecDepth 100000 in
theorem iw_1376 : (Jvm.Cond.fieldLink "EngagedToneModel" (37 : Nat) "EngagedToneModel" "priceOf" "[I") ∈ ia_T := ia_in6 (List.mem_of_getElem? (i := 66) rfl) rfl
set_option maxRecDepth 100000 in
theorem iw_1377 : (Jvm.Cond.fieldLink "EngagedToneModel" (40 : Nat) "EngagedToneModel" "callMan" "[I") ∈ ia_T := ia_in6 (List.mem_of_getElem? (i := 67) rfl) rfl
set_option maxRecDepth 100000 in
theorem iw_1378 : (Jvm.Cond.fieldLink "EngagedToneModel" (43 : Nat) "EngagedToneModel" "callTo" "[I") ∈ ia_T := ia_in6 (List.mem_of_getElem? (i := 68) rfl) rfl
set_option maxRecDepth 100000 in
theorem iw_1379 : (Jvm.Cond.fieldLink "EngagedToneModel" (46 : Nat) "EngagedToneModel" "callAt" "[I") ∈ ia_T := ia_in6 (List.mem_of_getElem? (i := 69) rfl) rfl
set_option maxRecDepth 100000 in
theorem iw_1380 : (Jvm.Cond.fieldLink "EngagedToneModel" (49 : Nat) "EngagedToneModel" "callLong" "[I") ∈ ia_T := ia_in6 (List.mem_of_getElem? (i := 70) rfl) rfl
set_option maxRecDepth 100000 in
theorem iw_1381 : (Jvm.Cond.fieldLink "EngagedToneModel" (52 : Nat) "EngagedToneModel" "sumFrom" "[I") ∈ ia_T := ia_in6 (List.mem_of_getElem? (i := 71) rfl) rfl
set_option maxRecDepth 100000 in
theorem iw_1382 : (Jvm.Cond.fieldLink "EngagedToneModel" (55 : Nat) "EngagedToneModel" "sumTo" "[I") ∈ ia_T := ia_in6 (List.mem_of_getElem? (i := 72) rfl) rfl
set_option maxRecDepth 100000 in
theorem iw_1383 : (Jvm.Cond.fieldLink "EngagedToneModel" (58 : Nat) "EngagedToneModel" "knotSort" "[I") ∈ ia_T := ia_in6 (List.mem_of_getElem? (i := 73) rfl) rfl
set_option maxRecDepth 100000 in
theorem iw_1384 : (Jvm.Cond.fieldLink "EngagedToneModel" (61 : Nat) "EngagedToneModel" "knotValue" "[I") ∈ ia_T := ia_in6 (List.mem_of_getElem? (i := 74) rfl) rfl
set_option maxRecDepth 100000 in
theorem iw_1385 : (Jvm.Cond.fieldLink "EngagedToneModel" (234 : Nat) "EngagedToneModel" "told" "I") ∈ ia_T := ia_in6 (List.mem_of_getElem? (i := 75) rfl) rfl
set_option maxRecDepth 100000 in
theorem iw_1386 : (Jvm.Cond.fieldLink "EngagedToneModel" (261 : Nat) "EngagedToneModel" "lines" "I") ∈ ia_T := ia_in6 (List.mem_of_getElem? (i := 76) rfl) rfl
set_option maxRecDepth 100000 in
theorem iw_1387 : (Jvm.Cond.fieldLink "EngagedToneModel" (160 : Nat) "EngagedToneModel" "size" "I") ∈ ia_T := ia_in6 (List.mem_of_getElem? (i := 77) rfl) rfl
set_option maxRecDepth 100000 in
theorem iw_1388 : (Jvm.Cond.fieldLink "EngagedToneModel" (157 : Nat) "EngagedToneModel" "at" "I") ∈ ia_T := ia_in6 (List.mem_of_getElem? (i := 78) rfl) rfl
set_option maxRecDepth 100000 in
theorem iw_1389 : (Jvm.Cond.fieldLink "EngagedToneModel" (167 : Nat) "EngagedToneModel" "place" "I") ∈ ia_T := ia_in6 (List.mem_of_getElem? (i := 79) rfl) rfl
set_option maxRecDepth 100000 in
theorem iw_1390 : (Jvm.Cond.fieldLink "EngagedToneModel" (170 : Nat) "EngagedToneModel" "sort" "I") ∈ ia_T := ia_in6 (List.mem_of_getElem? (i := 80) rfl) rfl
set_option maxRecDepth 100000 in
theorem iw_1391 : (Jvm.Cond.fieldLink "EngagedToneModel" (180 : Nat) "EngagedToneModel" "value" "I") ∈ ia_T := ia_in6 (List.mem_of_getElem? (i := 81) rfl) rfl
set_option maxRecDepth 100000 in
theorem iw_1392 : (Jvm.Cond.fieldLink "EngagedToneModel" (205 : Nat) "EngagedToneModel" "fault" "I") ∈ ia_T := ia_in6 (List.mem_of_getElem? (i := 82) rfl) rfl
set_option maxRecDepth 100000 in
theorem iw_1393 : (Jvm.Cond.fieldLink "EngagedToneModel" (208 : Nat) "EngagedToneModel" "faultPlace" "I") ∈ ia_T := ia_in6 (List.mem_of_getElem? (i := 83) rfl) rfl
set_option maxRecDepth 100000 in
theorem iw_1394 : (Jvm.Cond.fieldLink "EngagedToneModel" (300 : Nat) "EngagedToneModel" "lastFault" "I") ∈ ia_T := ia_in6 (List.mem_of_getElem? (i := 84) rfl) rfl
set_option maxRecDepth 100000 in
theorem iw_1395 : (Jvm.Cond.fieldLink "EngagedToneModel" (64 : Nat) "EngagedToneModel" "lastPlace" "I") ∈ ia_T := ia_in6 (List.mem_of_getElem? (i := 85) rfl) rfl
set_option maxRecDepth 100000 in
theorem iw_1396 : (Jvm.Cond.fieldLink "EngagedToneModel" (294 : Nat) "EngagedToneModel" "open" "I") ∈ ia_T := ia_in6 (List.mem_of_getElem? (i := 86) rfl) rfl
set_option maxRecDepth 100000 in
theorem iw_1397 : (Jvm.Cond.fieldLink "EngagedToneModel" (267 : Nat) "EngagedToneModel" "counted" "I") ∈ ia_T := ia_in6 (List.mem_of_getElem? (i := 87) rfl) rfl
set_option maxRecDepth 100000 in
theorem iw_1398 : (Jvm.Cond.fieldLink "EngagedToneModel" (68 : Nat) "EngagedToneModel" "names" "[J") ∈ ia_T := ia_in6 (List.mem_of_getElem? (i := 88) rfl) rfl
set_option maxRecDepth 100000 in
theorem iw_1399 : (Jvm.Cond.fieldLink "EngagedToneModel" (72 : Nat) "EngagedToneModel" "worked" "[J") ∈ ia_T := ia_in6 (List.mem_of_getElem? (i := 89) rfl) rfl
set_option maxRecDepth 100000 in
theorem iw_1400 : (Jvm.Cond.fieldLink "EngagedToneModel" (317 : Nat) "EngagedToneModel" "workedMany" "I") ∈ ia_T := ia_in6 (List.mem_of_getElem? (i := 90) rfl) rfl
set_option maxRecDepth 100000 in
theorem iw_1401 : (Jvm.Cond.fieldLink "EngagedToneModel" (75 : Nat) "EngagedToneModel" "quarter" "[I") ∈ ia_T := ia_in6 (List.mem_of_getElem? (i := 91) rfl) rfl
set_option maxRecDepth 100000 in
theorem iw_1402 : (Jvm.Cond.fieldLink "EngagedToneModel" (78 : Nat) "EngagedToneModel" "paid" "[I") ∈ ia_T := ia_in6 (List.mem_of_getElem? (i := 92) rfl) rfl
set_option maxRecDepth 100000 in
theorem iw_1403 : (Jvm.Cond.fieldLink "EngagedToneModel" (81 : Nat) "EngagedToneModel" "tones" "[I") ∈ ia_T := ia_in6 (List.mem_of_getElem? (i := 93) rfl) rfl
set_option maxRecDepth 100000 in
theorem iw_1404 : (Jvm.Cond.fieldLink "EngagedToneModel" (84 : Nat) "EngagedToneModel" "purseOf" "[I") ∈ ia_T := ia_in6 (List.mem_of_getElem? (i := 94) rfl) rfl
set_option maxRecDepth 100000 in
theorem iw_1405 : (Jvm.Cond.fieldLink "EngagedToneModel" (87 : Nat) "EngagedToneModel" "fameOf" "[I") ∈ ia_T := ia_in6 (List.mem_of_getElem? (i := 95) rfl) rfl
set_option maxRecDepth 100000 in
theorem iw_1406 : (Jvm.Cond.fieldLink "EngagedToneModel" (90 : Nat) "EngagedToneModel" "whoseTone" "[I") ∈ ia_T := ia_in6 (List.mem_of_getElem? (i := 96) rfl) rfl
set_option maxRecDepth 100000 in
theorem iw_1407 : (Jvm.Cond.fieldLink "EngagedToneModel" (93 : Nat) "EngagedToneModel" "fromTone" "[I") ∈ ia_T := ia_in6 (List.mem_of_getElem? (i := 97) rfl) rfl
set_option maxRecDepth 100000 in
theorem iw_1408 : (Jvm.Cond.fieldLink "EngagedToneModel" (96 : Nat) "EngagedToneModel" "manyTone" "[I") ∈ ia_T := ia_in6 (List.mem_of_getElem? (i := 98) rfl) rfl
set_option maxRecDepth 100000 in
theorem iw_1409 : (Jvm.Cond.fieldLink "EngagedToneModel" (99 : Nat) "EngagedToneModel" "howTone" "[I") ∈ ia_T := ia_in6 (List.mem_of_getElem? (i := 99) rfl) rfl
set_option maxRecDepth 100000 in
theorem iw_1410 : (Jvm.Cond.fieldLink "EngagedToneModel" (102 : Nat) "EngagedToneModel" "dueCall" "[I") ∈ ia_T := ia_in6 (List.mem_of_getElem? (i := 100) rfl) rfl
set_option maxRecDepth 100000 in
theorem iw_1411 : (Jvm.Cond.fieldLink "EngagedToneModel" (105 : Nat) "EngagedToneModel" "longCall" "[I") ∈ ia_T := ia_in6 (List.mem_of_getElem? (i := 101) rfl) rfl
set_option maxRecDepth 100000 in
theorem iw_1412 : (Jvm.Cond.fieldLink "EngagedToneModel" (108 : Nat) "EngagedToneModel" "howCall" "[I") ∈ ia_T := ia_in6 (List.mem_of_getElem? (i := 102) rfl) rfl
set_option maxRecDepth 100000 in
theorem iw_1413 : (Jvm.Cond.fieldLink "EngagedToneModel" (111 : Nat) "EngagedToneModel" "triedCall" "[I") ∈ ia_T := ia_in6 (List.mem_of_getElem? (i := 103) rfl) rfl
set_option maxRecDepth 100000 in
theorem iw_1414 : (Jvm.Cond.fieldLink "EngagedToneModel" (310 : Nat) "EngagedToneModel" "hasImage" "Z") ∈ ia_T := ia_in6 (List.mem_of_getElem? (i := 104) rfl) rfl
set_option maxRecDepth 100000 in
theorem iw_1415 : (Jvm.Cond.fieldLink "EngagedToneModel" (314 : Nat) "EngagedToneModel" "undoMany" "I") ∈ ia_T := ia_in6 (List.mem_of_getElem? (i := 105) rfl) rfl
set_option maxRecDepth 100000 in
theorem iw_1416 : (Jvm.Cond.fieldLink "EngagedToneModel" (340 : Nat) "EngagedToneModel" "tryWhat" "I") ∈ ia_T := ia_in6 (List.mem_of_getElem? (i := 106) rfl) rfl
set_option maxRecDepth 100000 in
theorem iw_1417 : (Jvm.Cond.fieldLink "EngagedToneModel" (114 : Nat) "EngagedToneModel" "tryMan" "I") ∈ ia_T := ia_in6 (List.mem_of_getElem? (i := 107) rfl) rfl
set_option maxRecDepth 100000 in
theorem iw_1418 : (Jvm.Cond.fieldLink "EngagedToneModel" (117 : Nat) "EngagedToneModel" "linesTold" "I") ∈ ia_T := ia_in6 (List.mem_of_getElem? (i := 108) rfl) rfl
set_option maxRecDepth 100000 in
theorem iw_1419 : (Jvm.Cond.fieldLink "EngagedToneModel" (391 : Nat) "EngagedToneModel" "isDrawing" "Z") ∈ ia_T := ia_in6 (List.mem_of_getElem? (i := 109) rfl) rfl
set_option maxRecDepth 100000 in
theorem iw_1420 : (Jvm.Cond.fieldLink "EngagedToneModel" (394 : Nat) "EngagedToneModel" "drawn" "I") ∈ ia_T := ia_in6 (List.mem_of_getElem? (i := 110) rfl) rfl
set_option maxRecDepth 100000 in
theorem iw_1421 : (Jvm.Cond.fieldLink "EngagedToneModel" (120 : Nat) "EngagedToneModel" "shifted" "[I") ∈ ia_T := ia_in6 (List.mem_of_getElem? (i := 111) rfl) rfl
set_option maxRecDepth 100000 in
theorem iw_1422 : (Jvm.Cond.fieldLink "EngagedToneModel" (456 : Nat) "EngagedToneModel" "shiftedMany" "I") ∈ ia_T := ia_in6 (List.mem_of_getElem? (i := 112) rfl) rfl
set_option maxRecDepth 100000 in
theorem iw_1423 : (Jvm.Cond.fieldLink "EngagedToneModel" (459 : Nat) "EngagedToneModel" "shiftLeast" "I") ∈ ia_T := ia_in6 (List.mem_of_getElem? (i := 113) rfl) rfl
set_option maxRecDepth 100000 in
theorem iw_1424 : (Jvm.Cond.fieldLink "EngagedToneModel" (462 : Nat) "EngagedToneModel" "shiftCode" "I") ∈ ia_T := ia_in6 (List.mem_of_getElem? (i := 114) rfl) rfl
set_option maxRecDepth 100000 in
theorem iw_1425 : (Jvm.Cond.fieldLink "EngagedToneModel" (123 : Nat) "EngagedToneModel" "stepsTo" "[I") ∈ ia_T := ia_in6 (List.mem_of_getElem? (i := 115) rfl) rfl
set_option maxRecDepth 100000 in
theorem iw_1426 : (Jvm.Cond.fieldLink "EngagedToneModel" (126 : Nat) "EngagedToneModel" "reached" "[I") ∈ ia_T := ia_in6 (List.mem_of_getElem? (i := 116) rfl) rfl
set_option maxRecDepth 100000 in
theorem iw_1427 : (Jvm.Cond.fieldLink "EngagedToneModel" (307 : Nat) "EngagedToneModel" "notes" "I") ∈ ia_T := ia_in6 (List.mem_of_getElem? (i := 117) rfl) rfl
set_option maxRecDepth 100000 in
theorem iw_1428 : (Jvm.Cond.fieldLink "EngagedToneModel" (129 : Nat) "EngagedToneModel" "knownBy" "I") ∈ ia_T := ia_in6 (List.mem_of_getElem? (i := 118) rfl) rfl
set_option maxRecDepth 100000 in
theorem iw_1429 : (Jvm.Cond.fieldLink "EngagedToneModel" (132 : Nat) "EngagedToneModel" "noteQuarter" "[I") ∈ ia_T := ia_in6 (List.mem_of_getElem? (i := 119) rfl) rfl
set_option maxRecDepth 100000 in
theorem iw_1430 : (Jvm.Cond.fieldLink "EngagedToneModel" (135 : Nat) "EngagedToneModel" "noteMan" "[I") ∈ ia_T := ia_in6 (List.mem_of_getElem? (i := 120) rfl) rfl
set_option maxRecDepth 100000 in
theorem iw_1431 : (Jvm.Cond.fieldLink "EngagedToneModel" (138 : Nat) "EngagedToneModel" "noteIs" "[Z") ∈ ia_T := ia_in6 (List.mem_of_getElem? (i := 121) rfl) rfl
set_option maxRecDepth 100000 in
theorem iw_1432 : (Jvm.Cond.fieldLink "EngagedToneModel" (142 : Nat) "EngagedToneModel" "outs" "[I") ∈ ia_T := ia_in6 (List.mem_of_getElem? (i := 122) rfl) rfl
set_option maxRecDepth 100000 in
theorem iw_1433 : (Jvm.Cond.fieldLink "EngagedToneModel" (145 : Nat) "EngagedToneModel" "isOut" "[Z") ∈ ia_T := ia_in6 (List.mem_of_getElem? (i := 123) rfl) rfl
set_option maxRecDepth 100000 in
theorem iw_1434 : (Jvm.Cond.lays "EngagedToneModel" "EngagedToneModel" "thrown" "I") ∈ ia_T := ia_in6 (List.mem_of_getElem? (i := 124) rfl) rfl
set_option maxRecDepth 100000 in
theorem iw_1436 : (Jvm.Cond.laysFinal "EngagedToneModel" "EngagedToneModel" "tape" "[I") ∈ ia_T := ia_in6 (List.mem_of_getElem? (i := 126) rfl) rfl
set_option maxRecDepth 100000 in
theorem iw_1438 : (Jvm.Cond.lays "EngagedToneModel" "EngagedToneModel" "taped" "I") ∈ ia_T := ia_in6 (List.mem_of_getElem? (i := 128) rfl) rfl
set_option maxRecDepth 100000 in
theorem iw_1440 : (Jvm.Cond.laysFinal "EngagedToneModel" "EngagedToneModel" "number" "[I") ∈ ia_T := ia_in6 (List.mem_of_getElem? (i := 130) rfl) rfl
set_option maxRecDepth 100000 in
theorem iw_1442 : (Jvm.Cond.laysFinal "EngagedToneModel" "EngagedToneModel" "manName" "[I") ∈ ia_T := ia_in6 (List.mem_of_getElem? (i := 132) rfl) rfl
set_option maxRecDepth 100000 in
theorem iw_1444 : (Jvm.Cond.laysFinal "EngagedToneModel" "EngagedToneModel" "vainOf" "[I") ∈ ia_T := ia_in6 (List.mem_of_getElem? (i := 134) rfl) rfl
set_option maxRecDepth 100000 in
theorem iw_1446 : (Jvm.Cond.laysFinal "EngagedToneModel" "EngagedToneModel" "purseAs" "[I") ∈ ia_T := ia_in6 (List.mem_of_getElem? (i := 136) rfl) rfl
set_option maxRecDepth 100000 in
theorem iw_1448 : (Jvm.Cond.laysFinal "EngagedToneModel" "EngagedToneModel" "toneMan" "[I") ∈ ia_T := ia_in6 (List.mem_of_getElem? (i := 138) rfl) rfl
set_option maxRecDepth 100000 in
theorem iw_1450 : (Jvm.Cond.laysFinal "EngagedToneModel" "EngagedToneModel" "toneFrom" "[I") ∈ ia_T := ia_in6 (List.mem_of_getElem? (i := 140) rfl) rfl
set_option maxRecDepth 100000 in
theorem iw_1452 : (Jvm.Cond.laysFinal "EngagedToneModel" "EngagedToneModel" "toneMany" "[I") ∈ ia_T := ia_in6 (List.mem_of_getElem? (i := 142) rfl) rfl
set_option maxRecDepth 100000 in
theorem iw_1454 : (Jvm.Cond.laysFinal "EngagedToneModel" "EngagedToneModel" "priceFrom" "[I") ∈ ia_T := ia_in6 (List.mem_of_getElem? (i := 144) rfl) rfl
set_option maxRecDepth 100000 in
theorem iw_1456 : (Jvm.Cond.laysFinal "EngagedToneModel" "EngagedToneModel" "priceOf" "[I") ∈ ia_T := ia_in6 (List.mem_of_getElem? (i := 146) rfl) rfl
set_option maxRecDepth 100000 in
theorem iw_1458 : (Jvm.Cond.laysFinal "EngagedToneModel" "EngagedToneModel" "callMan" "[I") ∈ ia_T := ia_in6 (List.mem_of_getElem? (i := 148) rfl) rfl
set_option maxRecDepth 100000 in
theorem iw_1460 : (Jvm.Cond.laysFinal "EngagedToneModel" "EngagedToneModel" "callTo" "[I") ∈ ia_T := ia_in6 (List.mem_of_getElem? (i := 150) rfl) rfl
set_option maxRecDepth 100000 in
theorem iw_1462 : (Jvm.Cond.laysFinal "EngagedToneModel" "EngagedToneModel" "callAt" "[I") ∈ ia_T := ia_in6 (List.mem_of_getElem? (i := 152) rfl) rfl
set_option maxRecDepth 100000 in
theorem iw_1464 : (Jvm.Cond.laysFinal "EngagedToneModel" "EngagedToneModel" "callLong" "[I") ∈ ia_T := ia_in6 (List.mem_of_getElem? (i := 154) rfl) rfl
set_option maxRecDepth 100000 in
theorem iw_1466 : (Jvm.Cond.laysFinal "EngagedToneModel" "EngagedToneModel" "sumFrom" "[I") ∈ ia_T := ia_in6 (List.mem_of_getElem? (i := 156) rfl) rfl
set_option maxRecDepth 100000 in
theorem iw_1468 : (Jvm.Cond.laysFinal "EngagedToneModel" "EngagedToneModel" "sumTo" "[I") ∈ ia_T := ia_in6 (List.mem_of_getElem? (i := 158) rfl) rfl
set_option maxRecDepth 100000 in
theorem iw_1470 : (Jvm.Cond.laysFinal "EngagedToneModel" "EngagedToneModel" "knotSort" "[I") ∈ ia_T := ia_in6 (List.mem_of_getElem? (i := 160) rfl) rfl
set_option maxRecDepth 100000 in
theorem iw_1472 : (Jvm.Cond.laysFinal "EngagedToneModel" "EngagedToneModel" "knotValue" "[I") ∈ ia_T := ia_in6 (List.mem_of_getElem? (i := 162) rfl) rfl
set_option maxRecDepth 100000 in
theorem iw_1474 : (Jvm.Cond.lays "EngagedToneModel" "EngagedToneModel" "told" "I") ∈ ia_T := ia_in6 (List.mem_of_getElem? (i := 164) rfl) rfl
set_option maxRecDepth 100000 in
theorem iw_1476 : (Jvm.Cond.lays "EngagedToneModel" "EngagedToneModel" "lines" "I") ∈ ia_T := ia_in6 (List.mem_of_getElem? (i := 166) rfl) rfl
set_option maxRecDepth 100000 in
theorem iw_1478 : (Jvm.Cond.lays "EngagedToneModel" "EngagedToneModel" "size" "I") ∈ ia_T := ia_in6 (List.mem_of_getElem? (i := 168) rfl) rfl
set_option maxRecDepth 100000 in
theorem iw_1480 : (Jvm.Cond.lays "EngagedToneModel" "EngagedToneModel" "at" "I") ∈ ia_T := ia_in6 (List.mem_of_getElem? (i := 170) rfl) rfl
set_option maxRecDepth 100000 in
theorem iw_1482 : (Jvm.Cond.lays "EngagedToneModel" "EngagedToneModel" "place" "I") ∈ ia_T := ia_in6 (List.mem_of_getElem? (i := 172) rfl) rfl
set_option maxRecDepth 100000 in
theorem iw_1484 : (Jvm.Cond.lays "EngagedToneModel" "EngagedToneModel" "sort" "I") ∈ ia_T := ia_in6 (List.mem_of_getElem? (i := 174) rfl) rfl
set_option maxRecDepth 100000 in
theorem iw_1486 : (Jvm.Cond.lays "EngagedToneModel" "EngagedToneModel" "value" "I") ∈ ia_T := ia_in6 (List.mem_of_getElem? (i := 176) rfl) rfl
set_option maxRecDepth 100000 in
theorem iw_1488 : (Jvm.Cond.lays "EngagedToneModel" "EngagedToneModel" "fault" "I") ∈ ia_T := ia_in6 (List.mem_of_getElem? (i := 178) rfl) rfl
set_option maxRecDepth 100000 in
theorem iw_1490 : (Jvm.Cond.lays "EngagedToneModel" "EngagedToneModel" "faultPlace" "I") ∈ ia_T := ia_in6 (List.mem_of_getElem? (i := 180) rfl) rfl
set_option maxRecDepth 100000 in
theorem iw_1492 : (Jvm.Cond.lays "EngagedToneModel" "EngagedToneModel" "lastFault" "I") ∈ ia_T := ia_in6 (List.mem_of_getElem? (i := 182) rfl) rfl
set_option maxRecDepth 100000 in
theorem iw_1494 : (Jvm.Cond.lays "EngagedToneModel" "EngagedToneModel" "lastPlace" "I") ∈ ia_T := ia_in6 (List.mem_of_getElem? (i := 184) rfl) rfl
set_option maxRecDepth 100000 in
theorem iw_1496 : (Jvm.Cond.lays "EngagedToneModel" "EngagedToneModel" "open" "I") ∈ ia_T := ia_in6 (List.mem_of_getElem? (i := 186) rfl) rfl
set_option maxRecDepth 100000 in
theorem iw_1498 : (Jvm.Cond.lays "EngagedToneModel" "EngagedToneModel" "counted" "I") ∈ ia_T := ia_in6 (List.mem_of_getElem? (i := 188) rfl) rfl
set_option maxRecDepth 100000 in
theorem iw_1500 : (Jvm.Cond.laysFinal "EngagedToneModel" "EngagedToneModel" "names" "[J") ∈ ia_T := ia_in6 (List.mem_of_getElem? (i := 190) rfl) rfl
set_option maxRecDepth 100000 in
theorem iw_1502 : (Jvm.Cond.laysFinal "EngagedToneModel" "EngagedToneModel" "worked" "[J") ∈ ia_T := ia_in6 (List.mem_of_getElem? (i := 192) rfl) rfl
set_option maxRecDepth 100000 in
theorem iw_1504 : (Jvm.Cond.lays "EngagedToneModel" "EngagedToneModel" "workedMany" "I") ∈ ia_T := ia_in6 (List.mem_of_getElem? (i := 194) rfl) rfl
set_option maxRecDepth 100000 in
theorem iw_1506 : (Jvm.Cond.laysFinal "EngagedToneModel" "EngagedToneModel" "quarter" "[I") ∈ ia_T := ia_in6 (List.mem_of_getElem? (i := 196) rfl) rfl
set_option maxRecDepth 100000 in
theorem iw_1508 : (Jvm.Cond.laysFinal "EngagedToneModel" "EngagedToneModel" "paid" "[I") ∈ ia_T := ia_in6 (List.mem_of_getElem? (i := 198) rfl) rfl
set_option maxRecDepth 100000 in
theorem iw_1510 : (Jvm.Cond.laysFinal "EngagedToneModel" "EngagedToneModel" "tones" "[I") ∈ ia_T := ia_in6 (List.mem_of_getElem? (i := 200) rfl) rfl
set_option maxRecDepth 100000 in
theorem iw_1512 : (Jvm.Cond.laysFinal "EngagedToneModel" "EngagedToneModel" "purseOf" "[I") ∈ ia_T := ia_in6 (List.mem_of_getElem? (i := 202) rfl) rfl
set_option maxRecDepth 100000 in
theorem iw_1514 : (Jvm.Cond.laysFinal "EngagedToneModel" "EngagedToneModel" "fameOf" "[I") ∈ ia_T := ia_in6 (List.mem_of_getElem? (i := 204) rfl) rfl
set_option maxRecDepth 100000 in
theorem iw_1516 : (Jvm.Cond.laysFinal "EngagedToneModel" "EngagedToneModel" "whoseTone" "[I") ∈ ia_T := ia_in6 (List.mem_of_getElem? (i := 206) rfl) rfl
set_option maxRecDepth 100000 in
theorem iw_1518 : (Jvm.Cond.laysFinal "EngagedToneModel" "EngagedToneModel" "fromTone" "[I") ∈ ia_T := ia_in6 (List.mem_of_getElem? (i := 208) rfl) rfl
set_option maxRecDepth 100000 in
theorem iw_1520 : (Jvm.Cond.laysFinal "EngagedToneModel" "EngagedToneModel" "manyTone" "[I") ∈ ia_T := ia_in6 (List.mem_of_getElem? (i := 210) rfl) rfl
set_option maxRecDepth 100000 in
theorem iw_1522 : (Jvm.Cond.laysFinal "EngagedToneModel" "EngagedToneModel" "howTone" "[I") ∈ ia_T := ia_in6 (List.mem_of_getElem? (i := 212) rfl) rfl
set_option maxRecDepth 100000 in
theorem iw_1524 : (Jvm.Cond.laysFinal "EngagedToneModel" "EngagedToneModel" "dueCall" "[I") ∈ ia_T := ia_in6 (List.mem_of_getElem? (i := 214) rfl) rfl
set_option maxRecDepth 100000 in
theorem iw_1526 : (Jvm.Cond.laysFinal "EngagedToneModel" "EngagedToneModel" "longCall" "[I") ∈ ia_T := ia_in6 (List.mem_of_getElem? (i := 216) rfl) rfl
set_option maxRecDepth 100000 in
theorem iw_1528 : (Jvm.Cond.laysFinal "EngagedToneModel" "EngagedToneModel" "howCall" "[I") ∈ ia_T := ia_in6 (List.mem_of_getElem? (i := 218) rfl) rfl
set_option maxRecDepth 100000 in
theorem iw_1530 : (Jvm.Cond.laysFinal "EngagedToneModel" "EngagedToneModel" "triedCall" "[I") ∈ ia_T := ia_in6 (List.mem_of_getElem? (i := 220) rfl) rfl
set_option maxRecDepth 100000 in
theorem iw_1532 : (Jvm.Cond.lays "EngagedToneModel" "EngagedToneModel" "hasImage" "Z") ∈ ia_T := ia_in6 (List.mem_of_getElem? (i := 222) rfl) rfl
set_option maxRecDepth 100000 in
theorem iw_1534 : (Jvm.Cond.lays "EngagedToneModel" "EngagedToneModel" "undoMany" "I") ∈ ia_T := ia_in6 (List.mem_of_getElem? (i := 224) rfl) rfl
set_option maxRecDepth 100000 in
theorem iw_1536 : (Jvm.Cond.lays "EngagedToneModel" "EngagedToneModel" "tryWhat" "I") ∈ ia_T := ia_in6 (List.mem_of_getElem? (i := 226) rfl) rfl
set_option maxRecDepth 100000 in
theorem iw_1538 : (Jvm.Cond.lays "EngagedToneModel" "EngagedToneModel" "tryMan" "I") ∈ ia_T := ia_in6 (List.mem_of_getElem? (i := 228) rfl) rfl
set_option maxRecDepth 100000 in
theorem iw_1540 : (Jvm.Cond.lays "EngagedToneModel" "EngagedToneModel" "linesTold" "I") ∈ ia_T := ia_in6 (List.mem_of_getElem? (i := 230) rfl) rfl
set_option maxRecDepth 100000 in
theorem iw_1542 : (Jvm.Cond.lays "EngagedToneModel" "EngagedToneModel" "isDrawing" "Z") ∈ ia_T := ia_in6 (List.mem_of_getElem? (i := 232) rfl) rfl
set_option maxRecDepth 100000 in
theorem iw_1544 : (Jvm.Cond.lays "EngagedToneModel" "EngagedToneModel" "drawn" "I") ∈ ia_T := ia_in6 (List.mem_of_getElem? (i := 234) rfl) rfl
set_option maxRecDepth 100000 in
theorem iw_1546 : (Jvm.Cond.laysFinal "EngagedToneModel" "EngagedToneModel" "shifted" "[I") ∈ ia_T := ia_in6 (List.mem_of_getElem? (i := 236) rfl) rfl
set_option maxRecDepth 100000 in
theorem iw_1548 : (Jvm.Cond.lays "EngagedToneModel" "EngagedToneModel" "shiftedMany" "I") ∈ ia_T := ia_in6 (List.mem_of_getElem? (i := 238) rfl) rfl
set_option maxRecDepth 100000 in
theorem iw_1550 : (Jvm.Cond.lays "EngagedToneModel" "EngagedToneModel" "shiftLeast" "I") ∈ ia_T := ia_in7 (List.mem_of_getElem? (i := 0) rfl) rfl
set_option maxRecDepth 100000 in
theorem iw_1552 : (Jvm.Cond.lays "EngagedToneModel" "EngagedToneModel" "shiftCode" "I") ∈ ia_T := ia_in7 (List.mem_of_getElem? (i := 2) rfl) rfl
set_option maxRecDepth 100000 in
theorem iw_1554 : (Jvm.Cond.laysFinal "EngagedToneModel" "EngagedToneModel" "stepsTo" "[I") ∈ ia_T := ia_in7 (List.mem_of_getElem? (i := 4) rfl) rfl
set_option maxRecDepth 100000 in
theorem iw_1556 : (Jvm.Cond.laysFinal "EngagedToneModel" "EngagedToneModel" "reached" "[I") ∈ ia_T := ia_in7 (List.mem_of_getElem? (i := 6) rfl) rfl
set_option maxRecDepth 100000 in
theorem iw_1558 : (Jvm.Cond.lays "EngagedToneModel" "EngagedToneModel" "notes" "I") ∈ ia_T := ia_in7 (List.mem_of_getElem? (i := 8) rfl) rfl
set_option maxRecDepth 100000 in
theorem iw_1560 : (Jvm.Cond.lays "EngagedToneModel" "EngagedToneModel" "knownBy" "I") ∈ ia_T := ia_in7 (List.mem_of_getElem? (i := 10) rfl) rfl
set_option maxRecDepth 100000 in
theorem iw_1562 : (Jvm.Cond.laysFinal "EngagedToneModel" "EngagedToneModel" "noteQuarter" "[I") ∈ ia_T := ia_in7 (List.mem_of_getElem? (i := 12) rfl) rfl
set_option maxRecDepth 100000 in
theorem iw_1564 : (Jvm.Cond.laysFinal "EngagedToneModel" "EngagedToneModel" "noteMan" "[I") ∈ ia_T := ia_in7 (List.mem_of_getElem? (i := 14) rfl) rfl
set_option maxRecDepth 100000 in
theorem iw_1566 : (Jvm.Cond.laysFinal "EngagedToneModel" "EngagedToneModel" "noteIs" "[Z") ∈ ia_T := ia_in7 (List.mem_of_getElem? (i := 16) rfl) rfl
set_option maxRecDepth 100000 in
theorem iw_1568 : (Jvm.Cond.laysFinal "EngagedToneModel" "EngagedToneModel" "outs" "[I") ∈ ia_T := ia_in7 (List.mem_of_getElem? (i := 18) rfl) rfl
set_option maxRecDepth 100000 in
theorem iw_1570 : (Jvm.Cond.laysFinal "EngagedToneModel" "EngagedToneModel" "isOut" "[Z") ∈ ia_T := ia_in7 (List.mem_of_getElem? (i := 20) rfl) rfl

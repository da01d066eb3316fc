/-! The words, by their places (by program). -/
set_option maxRecDepth 100000 in
theorem iw_505 : (Jvm.Cond.methodLinkNest "EngagedTone" (55 : Nat) ({ cls := "EngagedTone$Rumours", name := "<init>", desc := "()V" } : Jvm.MethodName) "EngagedTone") ∈ lw_tbl := ia_iu2 (List.mem_of_getElem? (i := 155) rfl)
set_option maxRecDepth 100000 in
theorem iw_506 : (Jvm.Cond.instanceMethod ({ cls := "EngagedTone$Rumours", name := "<init>", desc := "()V" } : Jvm.MethodName)) ∈ ia_T := ia_in2 (List.mem_of_getElem? (i := 156) rfl) rfl
set_option maxRecDepth 100000 in
theorem iw_507 : (Jvm.Cond.code ({ cls := "EngagedTone$Rumours", name := "<init>", desc := "()V" } : Jvm.MethodName) prog_7_method_1_code (1 : Nat) (Option.none : Option Jvm.ClassFile.FieldType)) ∈ ia_T := ia_in2 (List.mem_of_getElem? (i := 157) rfl) rfl
set_option maxRecDepth 100000 in
theorem iw_508 : (Jvm.Cond.methodLink "EngagedTone$Rumours" (3 : Nat) ({ cls := "java/lang/Object", name := "<init>", desc := "()V" } : Jvm.MethodName)) ∈ ia_T := ia_in2 (List.mem_of_getElem? (i := 158) rfl) rfl
set_option maxRecDepth 100000 in
theorem iw_509 : (Jvm.Cond.fieldLink "EngagedTone$Rumours" (29 : Nat) "EngagedTone$Rumours" "heard" "I") ∈ ia_T := ia_in2 (List.mem_of_getElem? (i := 159) rfl) rfl
set_option maxRecDepth 100000 in
theorem iw_510 : (Jvm.Cond.fieldLink "EngagedTone" (310 : Nat) "EngagedTone$Rumours" "heard" "I") ∈ ia_T := ia_in2 (List.mem_of_getElem? (i := 160) rfl) rfl
set_option maxRecDepth 100000 in
theorem iw_511 : (Jvm.Cond.fieldLink "EngagedTone$Rumours" (9 : Nat) "EngagedTone$Rumours" "believed" "I") ∈ ia_T := ia_in2 (List.mem_of_getElem? (i := 161) rfl) rfl
set_option maxRecDepth 100000 in
theorem iw_512 : (Jvm.Cond.fieldLink "EngagedTone" (313 : Nat) "EngagedTone$Rumours" "believed" "I") ∈ ia_T := ia_in2 (List.mem_of_getElem? (i := 162) rfl) rfl
set_option maxRecDepth 100000 in
theorem iw_513 : (Jvm.Cond.fieldLink "EngagedTone$Rumours" (15 : Nat) "EngagedTone$Rumours" "kind" "[I") ∈ ia_T := ia_in2 (List.mem_of_getElem? (i := 163) rfl) rfl
set_option maxRecDepth 100000 in
theorem iw_514 : (Jvm.Cond.fieldLink "EngagedTone$Rumours" (19 : Nat) "EngagedTone$Rumours" "quarters" "[I") ∈ ia_T := ia_in2 (List.mem_of_getElem? (i := 164) rfl) rfl
set_option maxRecDepth 100000 in
theorem iw_515 : (Jvm.Cond.fieldLink "EngagedTone$Rumours" (22 : Nat) "EngagedTone$Rumours" "whom" "[I") ∈ ia_T := ia_in2 (List.mem_of_getElem? (i := 165) rfl) rfl
set_option maxRecDepth 100000 in
theorem iw_516 : (Jvm.Cond.fieldLink "EngagedTone$Rumours" (25 : Nat) "EngagedTone$Rumours" "isStruck" "[Z") ∈ ia_T := ia_in2 (List.mem_of_getElem? (i := 166) rfl) rfl
set_option maxRecDepth 100000 in
theorem iw_517 : (Jvm.Cond.lays "EngagedTone$Rumours" "EngagedTone$Rumours" "heard" "I") ∈ ia_T := ia_in2 (List.mem_of_getElem? (i := 167) rfl) rfl
set_option maxRecDepth 100000 in
theorem iw_519 : (Jvm.Cond.lays "EngagedTone$Rumours" "EngagedTone$Rumours" "believed" "I") ∈ ia_T := ia_in2 (List.mem_of_getElem? (i := 169) rfl) rfl
set_option maxRecDepth 100000 in
theorem iw_521 : (Jvm.Cond.laysFinal "EngagedTone$Rumours" "EngagedTone$Rumours" "kind" "[I") ∈ ia_T := ia_in2 (List.mem_of_getElem? (i := 171) rfl) rfl
set_option maxRecDepth 100000 in
theorem iw_523 : (Jvm.Cond.laysFinal "EngagedTone$Rumours" "EngagedTone$Rumours" "quarters" "[I") ∈ ia_T := ia_in2 (List.mem_of_getElem? (i := 173) rfl) rfl
set_option maxRecDepth 100000 in
theorem iw_525 : (Jvm.Cond.laysFinal "EngagedTone$Rumours" "EngagedTone$Rumours" "whom" "[I") ∈ ia_T := ia_in2 (List.mem_of_getElem? (i := 175) rfl) rfl
set_option maxRecDepth 100000 in
theorem iw_527 : (Jvm.Cond.laysFinal "EngagedTone$Rumours" "EngagedTone$Rumours" "isStruck" "[Z") ∈ ia_T := ia_in2 (List.mem_of_getElem? (i := 177) rfl) rfl
set_option maxRecDepth 100000 in
theorem iw_530 : (Jvm.Cond.arrayClass Jvm.ClassFile.FieldType.boolean) ∈ ia_T := ia_in2 (List.mem_of_getElem? (i := 180) rfl) rfl
set_option maxRecDepth 100000 in
theorem iw_531 : (Jvm.Cond.classLink "EngagedTone" (60 : Nat) "EngagedTone$Deeds") ∈ ia_T := ia_in2 (List.mem_of_getElem? (i := 181) rfl) rfl
set_option maxRecDepth 100000 in
theorem iw_532 : (Jvm.Cond.instantiable "EngagedTone$Deeds" (7 : Nat)) ∈ ia_T := ia_in2 (List.mem_of_getElem? (i := 182) rfl) rfl
set_option maxRecDepth 100000 in
theorem iw_533 : (Jvm.Cond.methodLinkNest "EngagedTone" (62 : Nat) ({ cls := "EngagedTone$Deeds", name := "<init>", desc := "()V" } : Jvm.MethodName) "EngagedTone") ∈ lw_tbl := ia_iu2 (List.mem_of_getElem? (i := 183) rfl)
set_option maxRecDepth 100000 in
theorem iw_534 : (Jvm.Cond.instanceMethod ({ cls := "EngagedTone$Deeds", name := "<init>", desc := "()V" } : Jvm.MethodName)) ∈ ia_T := ia_in2 (List.mem_of_getElem? (i := 184) rfl) rfl
set_option maxRecDepth 100000 in
theorem iw_535 : (Jvm.Cond.code ({ cls := "EngagedTone$Deeds", name := "<init>", desc := "()V" } : Jvm.MethodName) prog_2_method_1_code (1 : Nat) (Option.none : Option Jvm.ClassFile.FieldType)) ∈ ia_T := ia_in2 (List.mem_of_getElem? (i := 185) rfl) rfl
set_option maxRecDepth 100000 in
theorem iw_536 : (Jvm.Cond.methodLink "EngagedTone$Deeds" (3 : Nat) ({ cls := "java/lang/Object", name := "<init>", desc := "()V" } : Jvm.MethodName)) ∈ ia_T := ia_in2 (List.mem_of_getElem? (i := 186) rfl) rfl
set_option maxRecDepth 100000 in
theorem iw_537 : (Jvm.Cond.fieldLink "EngagedTone$Deeds" (21 : Nat) "EngagedTone$Deeds" "done" "I") ∈ ia_T := ia_in2 (List.mem_of_getElem? (i := 187) rfl) rfl
set_option maxRecDepth 100000 in
theorem iw_538 : (Jvm.Cond.fieldLink "EngagedTone" (355 : Nat) "EngagedTone$Deeds" "done" "I") ∈ ia_T := ia_in2 (List.mem_of_getElem? (i := 188) rfl) rfl
set_option maxRecDepth 100000 in
theorem iw_539 : (Jvm.Cond.fieldLink "EngagedTone$Deeds" (28 : Nat) "EngagedTone$Deeds" "lastKind" "I") ∈ ia_T := ia_in2 (List.mem_of_getElem? (i := 189) rfl) rfl
set_option maxRecDepth 100000 in
theorem iw_540 : (Jvm.Cond.fieldLink "EngagedTone" (346 : Nat) "EngagedTone$Deeds" "lastKind" "I") ∈ ia_T := ia_in2 (List.mem_of_getElem? (i := 190) rfl) rfl
set_option maxRecDepth 100000 in
theorem iw_541 : (Jvm.Cond.fieldLink "EngagedTone$Deeds" (31 : Nat) "EngagedTone$Deeds" "lastWhich" "I") ∈ ia_T := ia_in2 (List.mem_of_getElem? (i := 191) rfl) rfl
set_option maxRecDepth 100000 in
theorem iw_542 : (Jvm.Cond.fieldLink "EngagedTone" (343 : Nat) "EngagedTone$Deeds" "lastWhich" "I") ∈ ia_T := ia_in2 (List.mem_of_getElem? (i := 192) rfl) rfl
set_option maxRecDepth 100000 in
theorem iw_543 : (Jvm.Cond.fieldLink "EngagedTone$Deeds" (34 : Nat) "EngagedTone$Deeds" "lastBefore" "I") ∈ ia_T := ia_in2 (List.mem_of_getElem? (i := 193) rfl) rfl
set_option maxRecDepth 100000 in
theorem iw_544 : (Jvm.Cond.fieldLink "EngagedTone" (352 : Nat) "EngagedTone$Deeds" "lastBefore" "I") ∈ ia_T := ia_in2 (List.mem_of_getElem? (i := 194) rfl) rfl
set_option maxRecDepth 100000 in
theorem iw_545 : (Jvm.Cond.fieldLink "EngagedTone$Deeds" (9 : Nat) "EngagedTone$Deeds" "kinds" "[I") ∈ ia_T := ia_in2 (List.mem_of_getElem? (i := 195) rfl) rfl
set_option maxRecDepth 100000 in
theorem iw_546 : (Jvm.Cond.fieldLink "EngagedTone$Deeds" (15 : Nat) "EngagedTone$Deeds" "which" "[I") ∈ ia_T := ia_in2 (List.mem_of_getElem? (i := 196) rfl) rfl
set_option maxRecDepth 100000 in
theorem iw_547 : (Jvm.Cond.fieldLink "EngagedTone$Deeds" (18 : Nat) "EngagedTone$Deeds" "before" "[I") ∈ ia_T := ia_in2 (List.mem_of_getElem? (i := 197) rfl) rfl
set_option maxRecDepth 100000 in
theorem iw_548 : (Jvm.Cond.lays "EngagedTone$Deeds" "EngagedTone$Deeds" "done" "I") ∈ ia_T := ia_in2 (List.mem_of_getElem? (i := 198) rfl) rfl
set_option maxRecDepth 100000 in
theorem iw_550 : (Jvm.Cond.lays "EngagedTone$Deeds" "EngagedTone$Deeds" "lastKind" "I") ∈ ia_T := ia_in2 (List.mem_of_getElem? (i := 200) rfl) rfl
set_option maxRecDepth 100000 in
theorem iw_552 : (Jvm.Cond.lays "EngagedTone$Deeds" "EngagedTone$Deeds" "lastWhich" "I") ∈ ia_T := ia_in2 (List.mem_of_getElem? (i := 202) rfl) rfl
set_option maxRecDepth 100000 in
theorem iw_554 : (Jvm.Cond.lays "EngagedTone$Deeds" "EngagedTone$Deeds" "lastBefore" "I") ∈ ia_T := ia_in2 (List.mem_of_getElem? (i := 204) rfl) rfl
set_option maxRecDepth 100000 in
theorem iw_556 : (Jvm.Cond.laysFinal "EngagedTone$Deeds" "EngagedTone$Deeds" "kinds" "[I") ∈ ia_T := ia_in2 (List.mem_of_getElem? (i := 206) rfl) rfl
set_option maxRecDepth 100000 in
theorem iw_558 : (Jvm.Cond.laysFinal "EngagedTone$Deeds" "EngagedTone$Deeds" "which" "[I") ∈ ia_T := ia_in2 (List.mem_of_getElem? (i := 208) rfl) rfl
set_option maxRecDepth 100000 in
theorem iw_560 : (Jvm.Cond.laysFinal "EngagedTone$Deeds" "EngagedTone$Deeds" "before" "[I") ∈ ia_T := ia_in2 (List.mem_of_getElem? (i := 210) rfl) rfl
set_option maxRecDepth 100000 in
theorem iw_563 : (Jvm.Cond.fieldLink "EngagedTone" (11 : Nat) "EngagedTone" "tape" "[B") ∈ ia_T := ia_in2 (List.mem_of_getElem? (i := 213) rfl) rfl
set_option maxRecDepth 100000 in
theorem iw_564 : (Jvm.Cond.fieldLink "EngagedTone" (67 : Nat) "EngagedTone" "taped" "I") ∈ ia_T := ia_in2 (List.mem_of_getElem? (i := 214) rfl) rfl
set_option maxRecDepth 100000 in
theorem iw_565 : (Jvm.Cond.fieldLink "EngagedTone" (18 : Nat) "EngagedTone" "told" "LEngagedTone$Script;") ∈ ia_T := ia_in2 (List.mem_of_getElem? (i := 215) rfl) rfl
set_option maxRecDepth 100000 in
theorem iw_566 : (Jvm.Cond.fieldLink "EngagedTone" (25 : Nat) "EngagedTone" "now" "LEngagedTone$World;") ∈ ia_T := ia_in2 (List.mem_of_getElem? (i := 216) rfl) rfl
set_option maxRecDepth 100000 in
theorem iw_567 : (Jvm.Cond.fieldLink "EngagedTone" (29 : Nat) "EngagedTone" "image" "LEngagedTone$World;") ∈ ia_T := ia_in2 (List.mem_of_getElem? (i := 217) rfl) rfl
set_option maxRecDepth 100000 in
theorem iw_568 : (Jvm.Cond.fieldLink "EngagedTone" (94 : Nat) "EngagedTone" "hasImage" "Z") ∈ ia_T := ia_in2 (List.mem_of_getElem? (i := 218) rfl) rfl
set_option maxRecDepth 100000 in
theorem iw_569 : (Jvm.Cond.fieldLink "EngagedTone" (35 : Nat) "EngagedTone" "reader" "LEngagedTone$Reader;") ∈ ia_T := ia_in2 (List.mem_of_getElem? (i := 219) rfl) rfl
set_option maxRecDepth 100000 in
theorem iw_570 : (Jvm.Cond.fieldLink "EngagedTone" (42 : Nat) "EngagedTone" "exchange" "LEngagedTone$Exchange;") ∈ ia_T := ia_in2 (List.mem_of_getElem? (i := 220) rfl) rfl
set_option maxRecDepth 100000 in
theorem iw_571 : (Jvm.Cond.fieldLink "EngagedTone" (49 : Nat) "EngagedTone" "foresight" "LEngagedTone$Foresight;") ∈ ia_T := ia_in2 (List.mem_of_getElem? (i := 221) rfl) rfl
set_option maxRecDepth 100000 in
theorem iw_572 : (Jvm.Cond.fieldLink "EngagedTone" (56 : Nat) "EngagedTone" "rumours" "LEngagedTone$Rumours;") ∈ ia_T := ia_in2 (List.mem_of_getElem? (i := 222) rfl) rfl
set_option maxRecDepth 100000 in
theorem iw_573 : (Jvm.Cond.fieldLink "EngagedTone" (63 : Nat) "EngagedTone" "deeds" "LEngagedTone$Deeds;") ∈ ia_T := ia_in2 (List.mem_of_getElem? (i := 223) rfl) rfl
set_option maxRecDepth 100000 in
theorem iw_574 : (Jvm.Cond.laysFinal "EngagedTone" "EngagedTone" "tape" "[B") ∈ ia_T := ia_in2 (List.mem_of_getElem? (i := 224) rfl) rfl
set_option maxRecDepth 100000 in
theorem iw_576 : (Jvm.Cond.lays "EngagedTone" "EngagedTone" "taped" "I") ∈ ia_T := ia_in2 (List.mem_of_getElem? (i := 226) rfl) rfl
set_option maxRecDepth 100000 in
theorem iw_578 : (Jvm.Cond.lays "EngagedTone" "EngagedTone" "told" "LEngagedTone$Script;") ∈ ia_T := ia_in2 (List.mem_of_getElem? (i := 228) rfl) rfl
set_option maxRecDepth 100000 in
theorem iw_580 : (Jvm.Cond.laysFinal "EngagedTone" "EngagedTone" "now" "LEngagedTone$World;") ∈ ia_T := ia_in2 (List.mem_of_getElem? (i := 230) rfl) rfl
set_option maxRecDepth 100000 in
theorem iw_582 : (Jvm.Cond.laysFinal "EngagedTone" "EngagedTone" "image" "LEngagedTone$World;") ∈ ia_T := ia_in2 (List.mem_of_getElem? (i := 232) rfl) rfl
set_option maxRecDepth 100000 in
theorem iw_584 : (Jvm.Cond.lays "EngagedTone" "EngagedTone" "hasImage" "Z") ∈ ia_T := ia_in2 (List.mem_of_getElem? (i := 234) rfl) rfl
set_option maxRecDepth 100000 in
theorem iw_586 : (Jvm.Cond.laysFinal "EngagedTone" "EngagedTone" "reader" "LEngagedTone$Reader;") ∈ ia_T := ia_in2 (List.mem_of_getElem? (i := 236) rfl) rfl
set_option maxRecDepth 100000 in
theorem iw_588 : (Jvm.Cond.laysFinal "EngagedTone" "EngagedTone" "exchange" "LEngagedTone$Exchange;") ∈ ia_T := ia_in2 (List.mem_of_getElem? (i := 238) rfl) rfl
set_option maxRecDepth 100000 in
theorem iw_590 : (Jvm.Cond.laysFinal "EngagedTone" "EngagedTone" "foresight" "LEngagedTone$Foresight;") ∈ ia_T := ia_in3 (List.mem_of_getElem? (i := 0) rfl) rfl
set_option maxRecDepth 100000 in
theorem iw_592 : (Jvm.Cond.laysFinal "EngagedTone" "EngagedTone" "rumours" "LEngagedTone$Rumours;") ∈ ia_T := ia_in3 (List.mem_of_getElem? (i := 2) rfl) rfl
set_option maxRecDepth 100000 in
theorem iw_594 : (Jvm.Cond.laysFinal "EngagedTone" "EngagedTone" "deeds" "LEngagedTone$Deeds;") ∈ ia_T := ia_in3 (List.mem_of_getElem? (i := 4) rfl) rfl
set_option maxRecDepth 100000 in
theorem iw_597 : (Jvm.Cond.methodLink "EngagedToneLaw" (21 : Nat) ({ cls := "EngagedTone", name := "feed", desc := "(IIIII)I" } : Jvm.MethodName)) ∈ ia_T := ia_in3 (List.mem_of_getElem? (i := 7) rfl) rfl
set_option maxRecDepth 100000 in
theorem iw_598 : (Jvm.Cond.instanceMethod ({ cls := "EngagedTone", name := "feed", desc := "(IIIII)I" } : Jvm.MethodName)) ∈ ia_T := ia_in3 (List.mem_of_getElem? (i := 8) rfl) rfl
set_option maxRecDepth 100000 in
theorem iw_599 : (Jvm.Cond.selects "EngagedTone" ({ cls := "EngagedTone", name := "feed", desc := "(IIIII)I" } : Jvm.MethodName) ({ cls := "EngagedTone", name := "feed", desc := "(IIIII)I" } : Jvm.MethodName)) ∈ ia_T := ia_in3 (List.mem_of_getElem? (i := 9) rfl) rfl
set_option maxRecDepth 100000 in
theorem iw_600 : (Jvm.Cond.code ({ cls := "EngagedTone", name := "feed", desc := "(IIIII)I" } : Jvm.MethodName) prog_1_method_2_code (6 : Nat) (Option.some Jvm.ClassFile.FieldType.int)) ∈ ia_T := ia_in3 (List.mem_of_getElem? (i := 10) rfl) rfl
set_option maxRecDepth 100000 in
theorem iw_601 : (Jvm.Cond.methodLink "EngagedTone" (71 : Nat) ({ cls := "EngagedTone", name := "tapeNumber", desc := "(I)V" } : Jvm.MethodName)) ∈ ia_T := ia_in3 (List.mem_of_getElem? (i := 11) rfl) rfl
set_option maxRecDepth 100000 in
theorem iw_603 : (Jvm.Cond.instanceMethod ({ cls := "EngagedTone", name := "tapeNumber", desc := "(I)V" } : Jvm.MethodName)) ∈ ia_T := ia_in3 (List.mem_of_getElem? (i := 13) rfl) rfl
set_option maxRecDepth 100000 in
theorem iw_604 : (Jvm.Cond.code ({ cls := "EngagedTone", name := "tapeNumber", desc := "(I)V" } : Jvm.MethodName) prog_1_method_3_code (3 : Nat) (Option.none : Option Jvm.ClassFile.FieldType)) ∈ ia_T := ia_in3 (List.mem_of_getElem? (i := 14) rfl) rfl
set_option maxRecDepth 100000 in
theorem iw_605 : (Jvm.Cond.methodLink "EngagedToneLaw" (26 : Nat) ({ cls := "EngagedTone", name := "text", desc := "(I)I" } : Jvm.MethodName)) ∈ ia_T := ia_in3 (List.mem_of_getElem? (i := 15) rfl) rfl
set_option maxRecDepth 100000 in
theorem iw_606 : (Jvm.Cond.instanceMethod ({ cls := "EngagedTone", name := "text", desc := "(I)I" } : Jvm.MethodName)) ∈ ia_T := ia_in3 (List.mem_of_getElem? (i := 16) rfl) rfl
set_option maxRecDepth 100000 in
theorem iw_607 : (Jvm.Cond.selects "EngagedTone" ({ cls := "EngagedTone", name := "text", desc := "(I)I" } : Jvm.MethodName) ({ cls := "EngagedTone", name := "text", desc := "(I)I" } : Jvm.MethodName)) ∈ ia_T := ia_in3 (List.mem_of_getElem? (i := 17) rfl) rfl
set_option maxRecDepth 100000 in
theorem iw_608 : (Jvm.Cond.code ({ cls := "EngagedTone", name := "text", desc := "(I)I" } : Jvm.MethodName) prog_1_method_4_code (2 : Nat) (Option.some Jvm.ClassFile.FieldType.int)) ∈ ia_T := ia_in3 (List.mem_of_getElem? (i := 18) rfl) rfl
set_option maxRecDepth 100000 in
theorem iw_609 : (Jvm.Cond.methodLink "EngagedTone" (75 : Nat) ({ cls := "EngagedTone$Reader", name := "read", desc := "([BI)Z" } : Jvm.MethodName)) ∈ ia_T := ia_in3 (List.mem_of_getElem? (i := 19) rfl) rfl
set_option maxRecDepth 100000 in
theorem iw_610 : (Jvm.Cond.instanceMethod ({ cls := "EngagedTone$Reader", name := "read", desc := "([BI)Z" } : Jvm.MethodName)) ∈ ia_T := ia_in3 (List.mem_of_getElem? (i := 20) rfl) rfl
set_option maxRecDepth 100000 in
theorem iw_611 : (Jvm.Cond.selects "EngagedTone$Reader" ({ cls := "EngagedTone$Reader", name := "read", desc := "([BI)Z" } : Jvm.MethodName) ({ cls := "EngagedTone$Reader", name := "read", desc := "([BI)Z" } : Jvm.MethodName)) ∈ ia_T := ia_in3 (List.mem_of_getElem? (i := 21) rfl) rfl
set_option maxRecDepth 100000 in
theorem iw_612 : (Jvm.Cond.code ({ cls := "EngagedTone$Reader", name := "read", desc := "([BI)Z" } : Jvm.MethodName) prog_6_method_2_code (4 : Nat) (Option.some Jvm.ClassFile.FieldType.boolean)) ∈ ia_T := ia_in3 (List.mem_of_getElem? (i := 22) rfl) rfl
set_option maxRecDepth 100000 in
theorem iw_613 : (Jvm.Cond.methodLink "EngagedTone$Reader" (33 : Nat) ({ cls := "EngagedTone$Script", name := "wipe", desc := "()V" } : Jvm.MethodName)) ∈ ia_T := ia_in3 (List.mem_of_getElem? (i := 23) rfl) rfl
set_option maxRecDepth 100000 in
theorem iw_614 : (Jvm.Cond.instanceMethod ({ cls := "EngagedTone$Script", name := "wipe", desc := "()V" } : Jvm.MethodName)) ∈ ia_T := ia_in3 (List.mem_of_getElem? (i := 24) rfl) rfl
set_option maxRecDepth 100000 in
theorem iw_615 : (Jvm.Cond.selects "EngagedTone$Script" ({ cls := "EngagedTone$Script", name := "wipe", desc := "()V" } : Jvm.MethodName) ({ cls := "EngagedTone$Script", name := "wipe", desc := "()V" } : Jvm.MethodName)) ∈ ia_T := ia_in3 (List.mem_of_getElem? (i := 25) rfl) rfl
set_option maxRecDepth 100000 in
theorem iw_616 : (Jvm.Cond.code ({ cls := "EngagedTone$Script", name := "wipe", desc := "()V" } : Jvm.MethodName) prog_8_method_2_code (1 : Nat) (Option.none : Option Jvm.ClassFile.FieldType)) ∈ ia_T := ia_in3 (List.mem_of_getElem? (i := 26) rfl) rfl
set_option maxRecDepth 100000 in
theorem iw_617 : (Jvm.Cond.methodLink "EngagedTone$Script" (54 : Nat) ({ cls := "EngagedTone$World", name := "wipe", desc := "()V" } : Jvm.MethodName)) ∈ ia_T := ia_in3 (List.mem_of_getElem? (i := 27) rfl) rfl
set_option maxRecDepth 100000 in
theorem iw_618 : (Jvm.Cond.instanceMethod ({ cls := "EngagedTone$World", name := "wipe", desc := "()V" } : Jvm.MethodName)) ∈ ia_T := ia_in3 (List.mem_of_getElem? (i := 28) rfl) rfl
set_option maxRecDepth 100000 in
theorem iw_619 : (Jvm.Cond.selects "EngagedTone$World" ({ cls := "EngagedTone$World", name := "wipe", desc := "()V" } : Jvm.MethodName) ({ cls := "EngagedTone$World", name := "wipe", desc := "()V" } : Jvm.MethodName)) ∈ ia_T := ia_in3 (List.mem_of_getElem? (i := 29) rfl) rfl
set_option maxRecDepth 100000 in
theorem iw_620 : (Jvm.Cond.code ({ cls := "EngagedTone$World", name := "wipe", desc := "()V" } : Jvm.MethodName) prog_10_method_2_code (2 : Nat) (Option.none : Option Jvm.ClassFile.FieldType)) ∈ ia_T := ia_in3 (List.mem_of_getElem? (i := 30) rfl) rfl
set_option maxRecDepth 100000 in
theorem iw_621 : (Jvm.Cond.methodLink "EngagedTone$Script" (57 : Nat) ({ cls := "EngagedTone$Laws", name := "wipe", desc := "()V" } : Jvm.MethodName)) ∈ ia_T := ia_in3 (List.mem_of_getElem? (i := 31) rfl) rfl
set_option maxRecDepth 100000 in
theorem iw_622 : (Jvm.Cond.instanceMethod ({ cls := "EngagedTone$Laws", name := "wipe", desc := "()V" } : Jvm.MethodName)) ∈ ia_T := ia_in3 (List.mem_of_getElem? (i := 32) rfl) rfl
set_option maxRecDepth 100000 in
theorem iw_623 : (Jvm.Cond.selects "EngagedTone$Laws" ({ cls := "EngagedTone$Laws", name := "wipe", desc := "()V" } : Jvm.MethodName) ({ cls := "EngagedTone$Laws", name := "wipe", desc := "()V" } : Jvm.MethodName)) ∈ ia_T := ia_in3 (List.mem_of_getElem? (i := 33) rfl) rfl
set_option maxRecDepth 100000 in
theorem iw_624 : (Jvm.Cond.code ({ cls := "EngagedTone$Laws", name := "wipe", desc := "()V" } : Jvm.MethodName) prog_5_method_2_code (2 : Nat) (Option.none : Option Jvm.ClassFile.FieldType)) ∈ ia_T := ia_in3 (List.mem_of_getElem? (i := 34) rfl) rfl
set_option maxRecDepth 100000 in
theorem iw_625 : (Jvm.Cond.methodLink "EngagedTone$Reader" (42 : Nat) ({ cls := "EngagedTone$Tokens", name := "start", desc := "([BI)V" } : Jvm.MethodName)) ∈ ia_T := ia_in3 (List.mem_of_getElem? (i := 35) rfl) rfl
set_option maxRecDepth 100000 in
theorem iw_626 : (Jvm.Cond.instanceMethod ({ cls := "EngagedTone$Tokens", name := "start", desc := "([BI)V" } : Jvm.MethodName)) ∈ ia_T := ia_in3 (List.mem_of_getElem? (i := 36) rfl) rfl
set_option maxRecDepth 100000 in
theorem iw_627 : (Jvm.Cond.selects "EngagedTone$Tokens" ({ cls := "EngagedTone$Tokens", name := "start", desc := "([BI)V" } : Jvm.MethodName) ({ cls := "EngagedTone$Tokens", name := "start", desc := "([BI)V" } : Jvm.MethodName)) ∈ ia_T := ia_in3 (List.mem_of_getElem? (i := 37) rfl) rfl
set_option maxRecDepth 100000 in
theorem iw_628 : (Jvm.Cond.code ({ cls := "EngagedTone$Tokens", name := "start", desc := "([BI)V" } : Jvm.MethodName) prog_9_method_2_code (3 : Nat) (Option.none : Option Jvm.ClassFile.FieldType)) ∈ ia_T := ia_in3 (List.mem_of_getElem? (i := 38) rfl) rfl
set_option maxRecDepth 100000 in
theorem iw_629 : (Jvm.Cond.methodLink "EngagedTone$Tokens" (31 : Nat) ({ cls := "java/lang/Math", name := "min", desc := "(II)I" } : Jvm.MethodName)) ∈ ia_T := ia_in3 (List.mem_of_getElem? (i := 39) rfl) rfl
set_option maxRecDepth 100000 in
theorem iw_630 : (Jvm.Cond.static ({ cls := "java/lang/Math", name := "min", desc := "(II)I" } : Jvm.MethodName)) ∈ ia_T := ia_in3 (List.mem_of_getElem? (i := 40) rfl) rfl
set_option maxRecDepth 100000 in
theorem iw_631 : (Jvm.Cond.code ({ cls := "java/lang/Math", name := "min", desc := "(II)I" } : Jvm.MethodName) prog_20_method_69_code (2 : Nat) (Option.some Jvm.ClassFile.FieldType.int)) ∈ ia_T := ia_in3 (List.mem_of_getElem? (i := 41) rfl) rfl
set_option maxRecDepth 100000 in
theorem iw_632 : (Jvm.Cond.methodLink "EngagedTone$Tokens" (43 : Nat) ({ cls := "EngagedTone$Tokens", name := "next", desc := "()V" } : Jvm.MethodName)) ∈ ia_T := ia_in3 (List.mem_of_getElem? (i := 42) rfl) rfl
set_option maxRecDepth 100000 in
theorem iw_633 : (Jvm.Cond.instanceMethod ({ cls := "EngagedTone$Tokens", name := "next", desc := "()V" } : Jvm.MethodName)) ∈ ia_T := ia_in3 (List.mem_of_getElem? (i := 43) rfl) rfl
set_option maxRecDepth 100000 in
theorem iw_634 : (Jvm.Cond.selects "EngagedTone$Tokens" ({ cls := "EngagedTone$Tokens", name := "next", desc := "()V" } : Jvm.MethodName) ({ cls := "EngagedTone$Tokens", name := "next", desc := "()V" } : Jvm.MethodName)) ∈ ia_T := ia_in3 (List.mem_of_getElem? (i := 44) rfl) rfl
set_option maxRecDepth 100000 in
theorem iw_635 : (Jvm.Cond.code ({ cls := "EngagedTone$Tokens", name := "next", desc := "()V" } : Jvm.MethodName) prog_9_method_4_code (2 : Nat) (Option.none : Option Jvm.ClassFile.FieldType)) ∈ ia_T := ia_in3 (List.mem_of_getElem? (i := 45) rfl) rfl
set_option maxRecDepth 100000 in
theorem iw_636 : (Jvm.Cond.methodLink "EngagedTone$Tokens" (46 : Nat) ({ cls := "EngagedTone$Tokens", name := "signAt", desc := "(I)I" } : Jvm.MethodName)) ∈ ia_T := ia_in3 (List.mem_of_getElem? (i := 46) rfl) rfl
set_option maxRecDepth 100000 in
theorem iw_638 : (Jvm.Cond.instanceMethod ({ cls := "EngagedTone$Tokens", name := "signAt", desc := "(I)I" } : Jvm.MethodName)) ∈ ia_T := ia_in3 (List.mem_of_getElem? (i := 48) rfl) rfl
set_option maxRecDepth 100000 in
theorem iw_639 : (Jvm.Cond.code ({ cls := "EngagedTone$Tokens", name := "signAt", desc := "(I)I" } : Jvm.MethodName) prog_9_method_3_code (2 : Nat) (Option.some Jvm.ClassFile.FieldType.int)) ∈ ia_T := ia_in3 (List.mem_of_getElem? (i := 49) rfl) rfl
set_option maxRecDepth 100000 in
theorem iw_640 : (Jvm.Cond.methodLink "EngagedTone$Tokens" (59 : Nat) ({ cls := "EngagedTone$Tokens", name := "takeWord", desc := "()V" } : Jvm.MethodName)) ∈ ia_T := ia_in3 (List.mem_of_getElem? (i := 50) rfl) rfl
set_option maxRecDepth 100000 in
theorem iw_642 : (Jvm.Cond.instanceMethod ({ cls := "EngagedTone$Tokens", name := "takeWord", desc := "()V" } : Jvm.MethodName)) ∈ ia_T := ia_in3 (List.mem_of_getElem? (i := 52) rfl) rfl
set_option maxRecDepth 100000 in
theorem iw_643 : (Jvm.Cond.code ({ cls := "EngagedTone$Tokens", name := "takeWord", desc := "()V" } : Jvm.MethodName) prog_9_method_5_code (3 : Nat) (Option.none : Option Jvm.ClassFile.FieldType)) ∈ ia_T := ia_in3 (List.mem_of_getElem? (i := 53) rfl) rfl
set_option maxRecDepth 100000 in
theorem iw_644 : (Jvm.Cond.methodLink "EngagedTone$Tokens" (62 : Nat) ({ cls := "EngagedTone$Tokens", name := "takeNumber", desc := "()V" } : Jvm.MethodName)) ∈ ia_T := ia_in3 (List.mem_of_getElem? (i := 54) rfl) rfl
set_option maxRecDepth 100000 in
theorem iw_646 : (Jvm.Cond.instanceMethod ({ cls := "EngagedTone$Tokens", name := "takeNumber", desc := "()V" } : Jvm.MethodName)) ∈ ia_T := ia_in3 (List.mem_of_getElem? (i := 56) rfl) rfl
set_option maxRecDepth 100000 in
theorem iw_647 : (Jvm.Cond.code ({ cls := "EngagedTone$Tokens", name := "takeNumber", desc := "()V" } : Jvm.MethodName) prog_9_method_6_code (1 : Nat) (Option.none : Option Jvm.ClassFile.FieldType)) ∈ ia_T := ia_in3 (List.mem_of_getElem? (i := 57) rfl) rfl
set_option maxRecDepth 100000 in
theorem iw_648 : (Jvm.Cond.constant "EngagedTone$Tokens" (69 : Nat) (1000000 : Int32)) ∈ ia_T := ia_in3 (List.mem_of_getElem? (i := 58) rfl) rfl
set_option maxRecDepth 100000 in
theorem iw_649 : (Jvm.Cond.methodLink "EngagedTone$Tokens" (65 : Nat) ({ cls := "EngagedTone$Tokens", name := "takeSign", desc := "(C)V" } : Jvm.MethodName)) ∈ ia_T := ia_in3 (List.mem_of_getElem? (i := 59) rfl) rfl
set_option maxRecDepth 100000 in
theorem iw_651 : (Jvm.Cond.instanceMethod ({ cls := "EngagedTone$Tokens", name := "takeSign", desc := "(C)V" } : Jvm.MethodName)) ∈ ia_T := ia_in3 (List.mem_of_getElem? (i := 61) rfl) rfl
set_option maxRecDepth 100000 in
theorem iw_652 : (Jvm.Cond.code ({ cls := "EngagedTone$Tokens", name := "takeSign", desc := "(C)V" } : Jvm.MethodName) prog_9_method_7_code (4 : Nat) (Option.none : Option Jvm.ClassFile.FieldType)) ∈ ia_T := ia_in3 (List.mem_of_getElem? (i := 62) rfl) rfl
set_option maxRecDepth 100000 in
theorem iw_654 : (Jvm.Cond.methodLink "EngagedTone$Tokens" (72 : Nat) ({ cls := "java/lang/String", name := "indexOf", desc := "(I)I" } : Jvm.MethodName)) ∈ ia_T := ia_in3 (List.mem_of_getElem? (i := 64) rfl) rfl
set_option maxRecDepth 100000 in
theorem iw_655 : (Jvm.Cond.instanceMethod ({ cls := "java/lang/String", name := "indexOf", desc := "(I)I" } : Jvm.MethodName)) ∈ ia_T := ia_in3 (List.mem_of_getElem? (i := 65) rfl) rfl
set_option maxRecDepth 100000 in
theorem iw_656 : (Jvm.Cond.selects "java/lang/String" ({ cls := "java/lang/String", name := "indexOf", desc := "(I)I" } : Jvm.MethodName) ({ cls := "java/lang/String", name := "indexOf", desc := "(I)I" } : Jvm.MethodName)) ∈ ia_T := ia_in3 (List.mem_of_getElem? (i := 66) rfl) rfl
set_option maxRecDepth 100000 in
theorem iw_657 : (Jvm.Cond.code ({ cls := "java/lang/String", name := "indexOf", desc := "(I)I" } : Jvm.MethodName) prog_22_method_79_code (2 : Nat) (Option.some Jvm.ClassFile.FieldType.int)) ∈ ia_T := ia_in3 (List.mem_of_getElem? (i := 67) rfl) rfl
set_option maxRecDepth 100000 in
theorem iw_658 : (Jvm.Cond.methodLink "java/lang/String" (633 : Nat) ({ cls := "java/lang/String", name := "indexOf", desc := "(II)I" } : Jvm.MethodName)) ∈ ia_T := ia_in3 (List.mem_of_getElem? (i := 68) rfl) rfl
set_option maxRecDepth 100000 in
theorem iw_659 : (Jvm.Cond.instanceMethod ({ cls := "java/lang/String", name := "indexOf", desc := "(II)I" } : Jvm.MethodName)) ∈ ia_T := ia_in3 (List.mem_of_getElem? (i := 69) rfl) rfl
set_option maxRecDepth 100000 in
theorem iw_660 : (Jvm.Cond.selects "java/lang/String" ({ cls := "java/lang/String", name := "indexOf", desc := "(II)I" } : Jvm.MethodName) ({ cls := "java/lang/String", name := "indexOf", desc := "(II)I" } : Jvm.MethodName)) ∈ ia_T := ia_in3 (List.mem_of_getElem? (i := 70) rfl) rfl
set_option maxRecDepth 100000 in
theorem iw_661 : (Jvm.Cond.code ({ cls := "java/lang/String", name := "indexOf", desc := "(II)I" } : Jvm.MethodName) prog_22_method_80_code (3 : Nat) (Option.some Jvm.ClassFile.FieldType.int)) ∈ ia_T := ia_in3 (List.mem_of_getElem? (i := 71) rfl) rfl
set_option maxRecDepth 100000 in
theorem iw_662 : (Jvm.Cond.methodLink "java/lang/String" (505 : Nat) ({ cls := "java/lang/String", name := "length", desc := "()I" } : Jvm.MethodName)) ∈ ia_T := ia_in3 (List.mem_of_getElem? (i := 72) rfl) rfl
set_option maxRecDepth 100000 in
theorem iw_663 : (Jvm.Cond.methodLink "java/lang/String" (637 : Nat) ({ cls := "java/lang/StringLatin1", name := "indexOf", desc := "([BIII)I" } : Jvm.MethodName)) ∈ ia_T := ia_in3 (List.mem_of_getElem? (i := 73) rfl) rfl
set_option maxRecDepth 100000 in
theorem iw_664 : (Jvm.Cond.static ({ cls := "java/lang/StringLatin1", name := "indexOf", desc := "([BIII)I" } : Jvm.MethodName)) ∈ ia_T := ia_in3 (List.mem_of_getElem? (i := 74) rfl) rfl
set_option maxRecDepth 100000 in
theorem iw_665 : (Jvm.Cond.code ({ cls := "java/lang/StringLatin1", name := "indexOf", desc := "([BIII)I" } : Jvm.MethodName) prog_23_method_22_code (4 : Nat) (Option.some Jvm.ClassFile.FieldType.int)) ∈ ia_T := ia_in3 (List.mem_of_getElem? (i := 75) rfl) rfl
set_option maxRecDepth 100000 in
theorem iw_666 : (Jvm.Cond.methodLink "java/lang/StringLatin1" (88 : Nat) ({ cls := "java/lang/StringLatin1", name := "canEncode", desc := "(I)Z" } : Jvm.MethodName)) ∈ ia_T := ia_in3 (List.mem_of_getElem? (i := 76) rfl) rfl
set_option maxRecDepth 100000 in
theorem iw_667 : (Jvm.Cond.static ({ cls := "java/lang/StringLatin1", name := "canEncode", desc := "(I)Z" } : Jvm.MethodName)) ∈ ia_T := ia_in3 (List.mem_of_getElem? (i := 77) rfl) rfl
set_option maxRecDepth 100000 in
theorem iw_668 : (Jvm.Cond.code ({ cls := "java/lang/StringLatin1", name := "canEncode", desc := "(I)Z" } : Jvm.MethodName) prog_23_method_4_code (1 : Nat) (Option.some Jvm.ClassFile.FieldType.boolean)) ∈ ia_T := ia_in3 (List.mem_of_getElem? (i := 78) rfl) rfl
set_option maxRecDepth 100000 in
theorem iw_669 : (Jvm.Cond.methodLink "java/lang/StringLatin1" (92 : Nat) ({ cls := "java/lang/Math", name := "max", desc := "(II)I" } : Jvm.MethodName)) ∈ ia_T := ia_in3 (List.mem_of_getElem? (i := 79) rfl) rfl
set_option maxRecDepth 100000 in
theorem iw_670 : (Jvm.Cond.static ({ cls := "java/lang/Math", name := "max", desc := "(II)I" } : Jvm.MethodName)) ∈ ia_T := ia_in3 (List.mem_of_getElem? (i := 80) rfl) rfl
set_option maxRecDepth 100000 in
theorem iw_671 : (Jvm.Cond.code ({ cls := "java/lang/Math", name := "max", desc := "(II)I" } : Jvm.MethodName) prog_20_method_65_code (2 : Nat) (Option.some Jvm.ClassFile.FieldType.int)) ∈ ia_T := ia_in3 (List.mem_of_getElem? (i := 81) rfl) rfl
set_option maxRecDepth 100000 in
theorem iw_672 : (Jvm.Cond.methodLink "java/lang/StringLatin1" (38 : Nat) ({ cls := "java/lang/Math", name := "min", desc := "(II)I" } : Jvm.MethodName)) ∈ ia_T := ia_in3 (List.mem_of_getElem? (i := 82) rfl) rfl
set_option maxRecDepth 100000 in
theorem iw_673 : (Jvm.Cond.methodLink "java/lang/StringLatin1" (95 : Nat) ({ cls := "java/lang/StringLatin1", name := "indexOfChar", desc := "([BIII)I" } : Jvm.MethodName)) ∈ ia_T := ia_in3 (List.mem_of_getElem? (i := 83) rfl) rfl
set_option maxRecDepth 100000 in
theorem iw_674 : (Jvm.Cond.static ({ cls := "java/lang/StringLatin1", name := "indexOfChar", desc := "([BIII)I" } : Jvm.MethodName)) ∈ ia_T := ia_in3 (List.mem_of_getElem? (i := 84) rfl) rfl
set_option maxRecDepth 100000 in
theorem iw_675 : (Jvm.Cond.code ({ cls := "java/lang/StringLatin1", name := "indexOfChar", desc := "([BIII)I" } : Jvm.MethodName) prog_23_method_23_code (6 : Nat) (Option.some Jvm.ClassFile.FieldType.int)) ∈ ia_T := ia_in3 (List.mem_of_getElem? (i := 85) rfl) rfl
set_option maxRecDepth 100000 in
theorem iw_711 : (Jvm.Cond.methodLink "EngagedTone$Reader" (49 : Nat) ({ cls := "EngagedTone$Reader", name := "readLine", desc := "()Z" } : Jvm.MethodName)) ∈ ia_T := ia_in3 (List.mem_of_getElem? (i := 121) rfl) rfl
set_option maxRecDepth 100000 in
theorem iw_713 : (Jvm.Cond.instanceMethod ({ cls := "EngagedTone$Reader", name := "readLine", desc := "()Z" } : Jvm.MethodName)) ∈ ia_T := ia_in3 (List.mem_of_getElem? (i := 123) rfl) rfl
set_option maxRecDepth 100000 in
theorem iw_714 : (Jvm.Cond.code ({ cls := "EngagedTone$Reader", name := "readLine", desc := "()Z" } : Jvm.MethodName) prog_6_method_5_code (2 : Nat) (Option.some Jvm.ClassFile.FieldType.boolean)) ∈ ia_T := ia_in3 (List.mem_of_getElem? (i := 124) rfl) rfl
set_option maxRecDepth 100000 in
theorem iw_715 : (Jvm.Cond.methodLink "EngagedTone$Reader" (56 : Nat) ({ cls := "EngagedTone$Reader", name := "readMan", desc := "()Z" } : Jvm.MethodName)) ∈ ia_T := ia_in3 (List.mem_of_getElem? (i := 125) rfl) rfl
set_option maxRecDepth 100000 in
theorem iw_717 : (Jvm.Cond.instanceMethod ({ cls := "EngagedTone$Reader", name := "readMan", desc := "()Z" } : Jvm.MethodName)) ∈ ia_T := ia_in3 (List.mem_of_getElem? (i := 127) rfl) rfl
set_option maxRecDepth 100000 in
theorem iw_718 : (Jvm.Cond.code ({ cls := "EngagedTone$Reader", name := "readMan", desc := "()Z" } : Jvm.MethodName) prog_6_method_6_code (4 : Nat) (Option.some Jvm.ClassFile.FieldType.boolean)) ∈ ia_T := ia_in3 (List.mem_of_getElem? (i := 128) rfl) rfl
set_option maxRecDepth 100000 in
theorem iw_719 : (Jvm.Cond.methodLink "EngagedTone$Reader" (80 : Nat) ({ cls := "EngagedTone$Reader", name := "wrong", desc := "(I)Z" } : Jvm.MethodName)) ∈ ia_T := ia_in3 (List.mem_of_getElem? (i := 129) rfl) rfl
set_option maxRecDepth 100000 in
theorem iw_721 : (Jvm.Cond.instanceMethod ({ cls := "EngagedTone$Reader", name := "wrong", desc := "(I)Z" } : Jvm.MethodName)) ∈ ia_T := ia_in3 (List.mem_of_getElem? (i := 131) rfl) rfl
set_option maxRecDepth 100000 in
theorem iw_722 : (Jvm.Cond.code ({ cls := "EngagedTone$Reader", name := "wrong", desc := "(I)Z" } : Jvm.MethodName) prog_6_method_4_code (2 : Nat) (Option.some Jvm.ClassFile.FieldType.boolean)) ∈ ia_T := ia_in3 (List.mem_of_getElem? (i := 132) rfl) rfl
set_option maxRecDepth 100000 in
theorem iw_723 : (Jvm.Cond.methodLink "EngagedTone$Reader" (84 : Nat) ({ cls := "EngagedTone$Tokens", name := "next", desc := "()V" } : Jvm.MethodName)) ∈ ia_T := ia_in3 (List.mem_of_getElem? (i := 133) rfl) rfl
set_option maxRecDepth 100000 in
theorem iw_724 : (Jvm.Cond.methodLink "EngagedTone$Reader" (93 : Nat) ({ cls := "EngagedTone$Script", name := "personNamed", desc := "(I)I" } : Jvm.MethodName)) ∈ ia_T := ia_in3 (List.mem_of_getElem? (i := 134) rfl) rfl
set_option maxRecDepth 100000 in
theorem iw_725 : (Jvm.Cond.instanceMethod ({ cls := "EngagedTone$Script", name := "personNamed", desc := "(I)I" } : Jvm.MethodName)) ∈ ia_T := ia_in3 (List.mem_of_getElem? (i := 135) rfl) rfl
set_option maxRecDepth 100000 in
theorem iw_726 : (Jvm.Cond.selects "EngagedTone$Script" ({ cls := "EngagedTone$Script", name := "personNamed", desc := "(I)I" } : Jvm.MethodName) ({ cls := "EngagedTone$Script", name := "personNamed", desc := "(I)I" } : Jvm.MethodName)) ∈ ia_T := ia_in3 (List.mem_of_getElem? (i := 136) rfl) rfl
set_option maxRecDepth 100000 in
theorem iw_727 : (Jvm.Cond.code ({ cls := "EngagedTone$Script", name := "personNamed", desc := "(I)I" } : Jvm.MethodName) prog_8_method_3_code (3 : Nat) (Option.some Jvm.ClassFile.FieldType.int)) ∈ ia_T := ia_in3 (List.mem_of_getElem? (i := 137) rfl) rfl
set_option maxRecDepth 100000 in
theorem iw_728 : (Jvm.Cond.methodLink "EngagedTone$Reader" (97 : Nat) ({ cls := "EngagedTone$Reader", name := "number", desc := "(II)I" } : Jvm.MethodName)) ∈ ia_T := ia_in3 (List.mem_of_getElem? (i := 138) rfl) rfl
set_option maxRecDepth 100000 in
theorem iw_730 : (Jvm.Cond.instanceMethod ({ cls := "EngagedTone$Reader", name := "number", desc := "(II)I" } : Jvm.MethodName)) ∈ ia_T := ia_in3 (List.mem_of_getElem? (i := 140) rfl) rfl
set_option maxRecDepth 100000 in
theorem iw_731 : (Jvm.Cond.code ({ cls := "EngagedTone$Reader", name := "number", desc := "(II)I" } : Jvm.MethodName) prog_6_method_13_code (4 : Nat) (Option.some Jvm.ClassFile.FieldType.int)) ∈ ia_T := ia_in3 (List.mem_of_getElem? (i := 141) rfl) rfl
set_option maxRecDepth 100000 in
theorem iw_732 : (Jvm.Cond.methodLink "EngagedTone$Reader" (59 : Nat) ({ cls := "EngagedTone$Reader", name := "readTone", desc := "()Z" } : Jvm.MethodName)) ∈ ia_T := ia_in3 (List.mem_of_getElem? (i := 142) rfl) rfl
set_option maxRecDepth 100000 in
theorem iw_734 : (Jvm.Cond.instanceMethod ({ cls := "EngagedTone$Reader", name := "readTone", desc := "()Z" } : Jvm.MethodName)) ∈ ia_T := ia_in3 (List.mem_of_getElem? (i := 144) rfl) rfl
set_option maxRecDepth 100000 in
theorem iw_735 : (Jvm.Cond.code ({ cls := "EngagedTone$Reader", name := "readTone", desc := "()Z" } : Jvm.MethodName) prog_6_method_7_code (4 : Nat) (Option.some Jvm.ClassFile.FieldType.boolean)) ∈ ia_T := ia_in3 (List.mem_of_getElem? (i := 145) rfl) rfl
set_option maxRecDepth 100000 in
theorem iw_736 : (Jvm.Cond.methodLink "EngagedTone$Reader" (119 : Nat) ({ cls := "EngagedTone$Reader", name := "person", desc := "()I" } : Jvm.MethodName)) ∈ ia_T := ia_in3 (List.mem_of_getElem? (i := 146) rfl) rfl
set_option maxRecDepth 100000 in
theorem iw_738 : (Jvm.Cond.instanceMethod ({ cls := "EngagedTone$Reader", name := "person", desc := "()I" } : Jvm.MethodName)) ∈ ia_T := ia_in3 (List.mem_of_getElem? (i := 148) rfl) rfl
set_option maxRecDepth 100000 in
theorem iw_739 : (Jvm.Cond.code ({ cls := "EngagedTone$Reader", name := "person", desc := "()I" } : Jvm.MethodName) prog_6_method_14_code (2 : Nat) (Option.some Jvm.ClassFile.FieldType.int)) ∈ ia_T := ia_in3 (List.mem_of_getElem? (i := 149) rfl) rfl
set_option maxRecDepth 100000 in
theorem iw_740 : (Jvm.Cond.methodLink "EngagedTone$Reader" (123 : Nat) ({ cls := "EngagedTone$World", name := "addTone", desc := "(III)V" } : Jvm.MethodName)) ∈ ia_T := ia_in3 (List.mem_of_getElem? (i := 150) rfl) rfl
set_option maxRecDepth 100000 in
theorem iw_741 : (Jvm.Cond.instanceMethod ({ cls := "EngagedTone$World", name := "addTone", desc := "(III)V" } : Jvm.MethodName)) ∈ ia_T := ia_in3 (List.mem_of_getElem? (i := 151) rfl) rfl
set_option maxRecDepth 100000 in
theorem iw_742 : (Jvm.Cond.selects "EngagedTone$World" ({ cls := "EngagedTone$World", name := "addTone", desc := "(III)V" } : Jvm.MethodName) ({ cls := "EngagedTone$World", name := "addTone", desc := "(III)V" } : Jvm.MethodName)) ∈ ia_T := ia_in3 (List.mem_of_getElem? (i := 152) rfl) rfl
set_option maxRecDepth 100000 in
theorem iw_743 : (Jvm.Cond.code ({ cls := "EngagedTone$World", name := "addTone", desc := "(III)V" } : Jvm.MethodName) prog_10_method_4_code (4 : Nat) (Option.none : Option Jvm.ClassFile.FieldType)) ∈ ia_T := ia_in3 (List.mem_of_getElem? (i := 153) rfl) rfl
set_option maxRecDepth 100000 in
theorem iw_744 : (Jvm.Cond.methodLink "EngagedTone$Reader" (62 : Nat) ({ cls := "EngagedTone$Reader", name := "readPrice", desc := "()Z" } : Jvm.MethodName)) ∈ ia_T := ia_in3 (List.mem_of_getElem? (i := 154) rfl) rfl
set_option maxRecDepth 100000 in
theorem iw_746 : (Jvm.Cond.instanceMethod ({ cls := "EngagedTone$Reader", name := "readPrice", desc := "()Z" } : Jvm.MethodName)) ∈ ia_T := ia_in3 (List.mem_of_getElem? (i := 156) rfl) rfl
set_option maxRecDepth 100000 in
theorem iw_747 : (Jvm.Cond.code ({ cls := "EngagedTone$Reader", name := "readPrice", desc := "()Z" } : Jvm.MethodName) prog_6_method_8_code (3 : Nat) (Option.some Jvm.ClassFile.FieldType.boolean)) ∈ ia_T := ia_in3 (List.mem_of_getElem? (i := 157) rfl) rfl
set_option maxRecDepth 100000 in
theorem iw_748 : (Jvm.Cond.methodLink "EngagedTone$Reader" (65 : Nat) ({ cls := "EngagedTone$Reader", name := "readRing", desc := "()Z" } : Jvm.MethodName)) ∈ ia_T := ia_in3 (List.mem_of_getElem? (i := 158) rfl) rfl
set_option maxRecDepth 100000 in
theorem iw_750 : (Jvm.Cond.instanceMethod ({ cls := "EngagedTone$Reader", name := "readRing", desc := "()Z" } : Jvm.MethodName)) ∈ ia_T := ia_in3 (List.mem_of_getElem? (i := 160) rfl) rfl
set_option maxRecDepth 100000 in
theorem iw_751 : (Jvm.Cond.code ({ cls := "EngagedTone$Reader", name := "readRing", desc := "()Z" } : Jvm.MethodName) prog_6_method_9_code (5 : Nat) (Option.some Jvm.ClassFile.FieldType.boolean)) ∈ ia_T := ia_in3 (List.mem_of_getElem? (i := 161) rfl) rfl
set_option maxRecDepth 100000 in
theorem iw_752 : (Jvm.Cond.methodLink "EngagedTone$Reader" (139 : Nat) ({ cls := "EngagedTone$World", name := "addRing", desc := "(IIII)V" } : Jvm.MethodName)) ∈ ia_T := ia_in3 (List.mem_of_getElem? (i := 162) rfl) rfl
set_option maxRecDepth 100000 in
theorem iw_753 : (Jvm.Cond.instanceMethod ({ cls := "EngagedTone$World", name := "addRing", desc := "(IIII)V" } : Jvm.MethodName)) ∈ ia_T := ia_in3 (List.mem_of_getElem? (i := 163) rfl) rfl
set_option maxRecDepth 100000 in
theorem iw_754 : (Jvm.Cond.selects "EngagedTone$World" ({ cls := "EngagedTone$World", name := "addRing", desc := "(IIII)V" } : Jvm.MethodName) ({ cls := "EngagedTone$World", name := "addRing", desc := "(IIII)V" } : Jvm.MethodName)) ∈ ia_T := ia_in3 (List.mem_of_getElem? (i := 164) rfl) rfl
set_option maxRecDepth 100000 in
theorem iw_755 : (Jvm.Cond.code ({ cls := "EngagedTone$World", name := "addRing", desc := "(IIII)V" } : Jvm.MethodName) prog_10_method_6_code (5 : Nat) (Option.none : Option Jvm.ClassFile.FieldType)) ∈ ia_T := ia_in3 (List.mem_of_getElem? (i := 165) rfl) rfl
set_option maxRecDepth 100000 in
theorem iw_756 : (Jvm.Cond.methodLink "EngagedTone$Reader" (68 : Nat) ({ cls := "EngagedTone$Reader", name := "readLines", desc := "()Z" } : Jvm.MethodName)) ∈ ia_T := ia_in3 (List.mem_of_getElem? (i := 166) rfl) rfl
set_option maxRecDepth 100000 in
theorem iw_758 : (Jvm.Cond.instanceMethod ({ cls := "EngagedTone$Reader", name := "readLines", desc := "()Z" } : Jvm.MethodName)) ∈ ia_T := ia_in3 (List.mem_of_getElem? (i := 168) rfl) rfl
set_option maxRecDepth 100000 in
theorem iw_759 : (Jvm.Cond.code ({ cls := "EngagedTone$Reader", name := "readLines", desc := "()Z" } : Jvm.MethodName) prog_6_method_10_code (1 : Nat) (Option.some Jvm.ClassFile.FieldType.boolean)) ∈ ia_T := ia_in3 (List.mem_of_getElem? (i := 169) rfl) rfl
set_option maxRecDepth 100000 in
theorem iw_760 : (Jvm.Cond.methodLink "EngagedTone$Reader" (71 : Nat) ({ cls := "EngagedTone$Reader", name := "readTries", desc := "()Z" } : Jvm.MethodName)) ∈ ia_T := ia_in3 (List.mem_of_getElem? (i := 170) rfl) rfl
set_option maxRecDepth 100000 in
theorem iw_762 : (Jvm.Cond.instanceMethod ({ cls := "EngagedTone$Reader", name := "readTries", desc := "()Z" } : Jvm.MethodName)) ∈ ia_T := ia_in3 (List.mem_of_getElem? (i := 172) rfl) rfl
set_option maxRecDepth 100000 in
theorem iw_763 : (Jvm.Cond.code ({ cls := "EngagedTone$Reader", name := "readTries", desc := "()Z" } : Jvm.MethodName) prog_6_method_11_code (1 : Nat) (Option.some Jvm.ClassFile.FieldType.boolean)) ∈ ia_T := ia_in3 (List.mem_of_getElem? (i := 173) rfl) rfl
set_option maxRecDepth 100000 in
theorem iw_764 : (Jvm.Cond.methodLink "EngagedTone$Reader" (74 : Nat) ({ cls := "EngagedTone$Reader", name := "readSeed", desc := "()Z" } : Jvm.MethodName)) ∈ ia_T := ia_in3 (List.mem_of_getElem? (i := 174) rfl) rfl
set_option maxRecDepth 100000 in
theorem iw_766 : (Jvm.Cond.instanceMethod ({ cls := "EngagedTone$Reader", name := "readSeed", desc := "()Z" } : Jvm.MethodName)) ∈ ia_T := ia_in3 (List.mem_of_getElem? (i := 176) rfl) rfl
set_option maxRecDepth 100000 in
theorem iw_767 : (Jvm.Cond.code ({ cls := "EngagedTone$Reader", name := "readSeed", desc := "()Z" } : Jvm.MethodName) prog_6_method_12_code (1 : Nat) (Option.some Jvm.ClassFile.FieldType.boolean)) ∈ ia_T := ia_in3 (List.mem_of_getElem? (i := 177) rfl) rfl
set_option maxRecDepth 100000 in
theorem iw_768 : (Jvm.Cond.constant "EngagedTone$Reader" (152 : Nat) (99999 : Int32)) ∈ ia_T := ia_in3 (List.mem_of_getElem? (i := 178) rfl) rfl
set_option maxRecDepth 100000 in
theorem iw_769 : (Jvm.Cond.methodLink "EngagedTone$Reader" (77 : Nat) ({ cls := "EngagedTone$Reader", name := "readLaw", desc := "()Z" } : Jvm.MethodName)) ∈ ia_T := ia_in3 (List.mem_of_getElem? (i := 179) rfl) rfl
set_option maxRecDepth 100000 in
theorem iw_771 : (Jvm.Cond.instanceMethod ({ cls := "EngagedTone$Reader", name := "readLaw", desc := "()Z" } : Jvm.MethodName)) ∈ ia_T := ia_in3 (List.mem_of_getElem? (i := 181) rfl) rfl
set_option maxRecDepth 100000 in
theorem iw_772 : (Jvm.Cond.code ({ cls := "EngagedTone$Reader", name := "readLaw", desc := "()Z" } : Jvm.MethodName) prog_6_method_15_code (4 : Nat) (Option.some Jvm.ClassFile.FieldType.boolean)) ∈ ia_T := ia_in3 (List.mem_of_getElem? (i := 182) rfl) rfl
set_option maxRecDepth 100000 in
theorem iw_773 : (Jvm.Cond.methodLink "EngagedTone$Reader" (157 : Nat) ({ cls := "EngagedTone$Laws", name := "isTold", desc := "(I)Z" } : Jvm.MethodName)) ∈ ia_T := ia_in3 (List.mem_of_getElem? (i := 183) rfl) rfl
set_option maxRecDepth 100000 in
theorem iw_774 : (Jvm.Cond.instanceMethod ({ cls := "EngagedTone$Laws", name := "isTold", desc := "(I)Z" } : Jvm.MethodName)) ∈ ia_T := ia_in3 (List.mem_of_getElem? (i := 184) rfl) rfl
set_option maxRecDepth 100000 in
theorem iw_775 : (Jvm.Cond.selects "EngagedTone$Laws" ({ cls := "EngagedTone$Laws", name := "isTold", desc := "(I)Z" } : Jvm.MethodName) ({ cls := "EngagedTone$Laws", name := "isTold", desc := "(I)Z" } : Jvm.MethodName)) ∈ ia_T := ia_in3 (List.mem_of_getElem? (i := 185) rfl) rfl
set_option maxRecDepth 100000 in
theorem iw_776 : (Jvm.Cond.code ({ cls := "EngagedTone$Laws", name := "isTold", desc := "(I)Z" } : Jvm.MethodName) prog_5_method_3_code (2 : Nat) (Option.some Jvm.ClassFile.FieldType.boolean)) ∈ ia_T := ia_in3 (List.mem_of_getElem? (i := 186) rfl) rfl
set_option maxRecDepth 100000 in
theorem iw_777 : (Jvm.Cond.methodLink "EngagedTone$Reader" (162 : Nat) ({ cls := "EngagedTone$Laws", name := "writtenSoFar", desc := "()I" } : Jvm.MethodName)) ∈ ia_T := ia_in3 (List.mem_of_getElem? (i := 187) rfl) rfl
set_option maxRecDepth 100000 in
theorem iw_778 : (Jvm.Cond.instanceMethod ({ cls := "EngagedTone$Laws", name := "writtenSoFar", desc := "()I" } : Jvm.MethodName)) ∈ ia_T := ia_in3 (List.mem_of_getElem? (i := 188) rfl) rfl
set_option maxRecDepth 100000 in
theorem iw_779 : (Jvm.Cond.selects "EngagedTone$Laws" ({ cls := "EngagedTone$Laws", name := "writtenSoFar", desc := "()I" } : Jvm.MethodName) ({ cls := "EngagedTone$Laws", name := "writtenSoFar", desc := "()I" } : Jvm.MethodName)) ∈ ia_T := ia_in3 (List.mem_of_getElem? (i := 189) rfl) rfl
set_option maxRecDepth 100000 in
theorem iw_780 : (Jvm.Cond.code ({ cls := "EngagedTone$Laws", name := "writtenSoFar", desc := "()I" } : Jvm.MethodName) prog_5_method_5_code (1 : Nat) (Option.some Jvm.ClassFile.FieldType.int)) ∈ ia_T := ia_in3 (List.mem_of_getElem? (i := 190) rfl) rfl
set_option maxRecDepth 100000 in
theorem iw_781 : (Jvm.Cond.methodLink "EngagedTone$Reader" (171 : Nat) ({ cls := "EngagedTone$Reader", name := "readValue", desc := "()Z" } : Jvm.MethodName)) ∈ ia_T := ia_in3 (List.mem_of_getElem? (i := 191) rfl) rfl
set_option maxRecDepth 100000 in
theorem iw_783 : (Jvm.Cond.instanceMethod ({ cls := "EngagedTone$Reader", name := "readValue", desc := "()Z" } : Jvm.MethodName)) ∈ ia_T := ia_in3 (List.mem_of_getElem? (i := 193) rfl) rfl
set_option maxRecDepth 100000 in
theorem iw_784 : (Jvm.Cond.code ({ cls := "EngagedTone$Reader", name := "readValue", desc := "()Z" } : Jvm.MethodName) prog_6_method_16_code (2 : Nat) (Option.some Jvm.ClassFile.FieldType.boolean)) ∈ ia_T := ia_in3 (List.mem_of_getElem? (i := 194) rfl) rfl
set_option maxRecDepth 100000 in
theorem iw_785 : (Jvm.Cond.methodLink "EngagedTone$Reader" (191 : Nat) ({ cls := "EngagedTone$Reader", name := "readOpening", desc := "()Z" } : Jvm.MethodName)) ∈ ia_T := ia_in3 (List.mem_of_getElem? (i := 195) rfl) rfl
set_option maxRecDepth 100000 in
theorem iw_787 : (Jvm.Cond.instanceMethod ({ cls := "EngagedTone$Reader", name := "readOpening", desc := "()Z" } : Jvm.MethodName)) ∈ ia_T := ia_in3 (List.mem_of_getElem? (i := 197) rfl) rfl
set_option maxRecDepth 100000 in
theorem iw_788 : (Jvm.Cond.code ({ cls := "EngagedTone$Reader", name := "readOpening", desc := "()Z" } : Jvm.MethodName) prog_6_method_17_code (1 : Nat) (Option.some Jvm.ClassFile.FieldType.boolean)) ∈ ia_T := ia_in3 (List.mem_of_getElem? (i := 198) rfl) rfl
set_option maxRecDepth 100000 in
theorem iw_789 : (Jvm.Cond.methodLink "EngagedTone$Reader" (203 : Nat) ({ cls := "EngagedTone$Reader", name := "await", desc := "(I)Z" } : Jvm.MethodName)) ∈ ia_T := ia_in3 (List.mem_of_getElem? (i := 199) rfl) rfl
set_option maxRecDepth 100000 in
theorem iw_791 : (Jvm.Cond.instanceMethod ({ cls := "EngagedTone$Reader", name := "await", desc := "(I)Z" } : Jvm.MethodName)) ∈ ia_T := ia_in3 (List.mem_of_getElem? (i := 201) rfl) rfl
set_option maxRecDepth 100000 in
theorem iw_792 : (Jvm.Cond.code ({ cls := "EngagedTone$Reader", name := "await", desc := "(I)Z" } : Jvm.MethodName) prog_6_method_23_code (2 : Nat) (Option.some Jvm.ClassFile.FieldType.boolean)) ∈ ia_T := ia_in3 (List.mem_of_getElem? (i := 202) rfl) rfl
set_option maxRecDepth 100000 in
theorem iw_793 : (Jvm.Cond.methodLink "EngagedTone$Reader" (194 : Nat) ({ cls := "EngagedTone$Reader", name := "readNot", desc := "()Z" } : Jvm.MethodName)) ∈ ia_T := ia_in3 (List.mem_of_getElem? (i := 203) rfl) rfl
set_option maxRecDepth 100000 in
theorem iw_795 : (Jvm.Cond.instanceMethod ({ cls := "EngagedTone$Reader", name := "readNot", desc := "()Z" } : Jvm.MethodName)) ∈ ia_T := ia_in3 (List.mem_of_getElem? (i := 205) rfl) rfl
set_option maxRecDepth 100000 in
theorem iw_796 : (Jvm.Cond.code ({ cls := "EngagedTone$Reader", name := "readNot", desc := "()Z" } : Jvm.MethodName) prog_6_method_18_code (1 : Nat) (Option.some Jvm.ClassFile.FieldType.boolean)) ∈ ia_T := ia_in3 (List.mem_of_getElem? (i := 206) rfl) rfl
set_option maxRecDepth 100000 in
theorem iw_797 : (Jvm.Cond.methodLink "EngagedTone$Reader" (206 : Nat) ({ cls := "EngagedTone$Reader", name := "rankOfLast", desc := "()I" } : Jvm.MethodName)) ∈ ia_T := ia_in3 (List.mem_of_getElem? (i := 207) rfl) rfl
set_option maxRecDepth 100000 in
theorem iw_799 : (Jvm.Cond.instanceMethod ({ cls := "EngagedTone$Reader", name := "rankOfLast", desc := "()I" } : Jvm.MethodName)) ∈ ia_T := ia_in3 (List.mem_of_getElem? (i := 209) rfl) rfl
set_option maxRecDepth 100000 in
theorem iw_800 : (Jvm.Cond.code ({ cls := "EngagedTone$Reader", name := "rankOfLast", desc := "()I" } : Jvm.MethodName) prog_6_method_22_code (1 : Nat) (Option.some Jvm.ClassFile.FieldType.int)) ∈ ia_T := ia_in3 (List.mem_of_getElem? (i := 210) rfl) rfl
set_option maxRecDepth 100000 in
theorem iw_801 : (Jvm.Cond.methodLink "EngagedTone$Reader" (177 : Nat) ({ cls := "EngagedTone$Reader", name := "rankOf", desc := "(I)I" } : Jvm.MethodName)) ∈ ia_T := ia_in3 (List.mem_of_getElem? (i := 211) rfl) rfl
set_option maxRecDepth 100000 in
theorem iw_802 : (Jvm.Cond.static ({ cls := "EngagedTone$Reader", name := "rankOf", desc := "(I)I" } : Jvm.MethodName)) ∈ ia_T := ia_in3 (List.mem_of_getElem? (i := 212) rfl) rfl
set_option maxRecDepth 100000 in
theorem iw_803 : (Jvm.Cond.code ({ cls := "EngagedTone$Reader", name := "rankOf", desc := "(I)I" } : Jvm.MethodName) prog_6_method_25_code (1 : Nat) (Option.some Jvm.ClassFile.FieldType.int)) ∈ ia_T := ia_in3 (List.mem_of_getElem? (i := 213) rfl) rfl
set_option maxRecDepth 100000 in
theorem iw_804 : (Jvm.Cond.methodLink "EngagedTone$Reader" (197 : Nat) ({ cls := "EngagedTone$Reader", name := "countKnot", desc := "()Z" } : Jvm.MethodName)) ∈ ia_T := ia_in3 (List.mem_of_getElem? (i := 214) rfl) rfl
set_option maxRecDepth 100000 in
theorem iw_806 : (Jvm.Cond.instanceMethod ({ cls := "EngagedTone$Reader", name := "countKnot", desc := "()Z" } : Jvm.MethodName)) ∈ ia_T := ia_in3 (List.mem_of_getElem? (i := 216) rfl) rfl
set_option maxRecDepth 100000 in
theorem iw_807 : (Jvm.Cond.code ({ cls := "EngagedTone$Reader", name := "countKnot", desc := "()Z" } : Jvm.MethodName) prog_6_method_24_code (1 : Nat) (Option.some Jvm.ClassFile.FieldType.boolean)) ∈ ia_T := ia_in3 (List.mem_of_getElem? (i := 217) rfl) rfl
set_option maxRecDepth 100000 in
theorem iw_808 : (Jvm.Cond.methodLink "EngagedTone$Reader" (200 : Nat) ({ cls := "EngagedTone$Laws", name := "write", desc := "(II)V" } : Jvm.MethodName)) ∈ ia_T := ia_in3 (List.mem_of_getElem? (i := 218) rfl) rfl
set_option maxRecDepth 100000 in
theorem iw_809 : (Jvm.Cond.instanceMethod ({ cls := "EngagedTone$Laws", name := "write", desc := "(II)V" } : Jvm.MethodName)) ∈ ia_T := ia_in3 (List.mem_of_getElem? (i := 219) rfl) rfl
set_option maxRecDepth 100000 in
theorem iw_810 : (Jvm.Cond.selects "EngagedTone$Laws" ({ cls := "EngagedTone$Laws", name := "write", desc := "(II)V" } : Jvm.MethodName) ({ cls := "EngagedTone$Laws", name := "write", desc := "(II)V" } : Jvm.MethodName)) ∈ ia_T := ia_in3 (List.mem_of_getElem? (i := 220) rfl) rfl
set_option maxRecDepth 100000 in
theorem iw_811 : (Jvm.Cond.code ({ cls := "EngagedTone$Laws", name := "write", desc := "(II)V" } : Jvm.MethodName) prog_5_method_4_code (3 : Nat) (Option.none : Option Jvm.ClassFile.FieldType)) ∈ ia_T := ia_in3 (List.mem_of_getElem? (i := 221) rfl) rfl
set_option maxRecDepth 100000 in
theorem iw_812 : (Jvm.Cond.methodLink "EngagedTone$Reader" (174 : Nat) ({ cls := "EngagedTone$Reader", name := "readClosings", desc := "()V" } : Jvm.MethodName)) ∈ ia_T := ia_in3 (List.mem_of_getElem? (i := 222) rfl) rfl
set_option maxRecDepth 100000 in
theorem iw_814 : (Jvm.Cond.instanceMethod ({ cls := "EngagedTone$Reader", name := "readClosings", desc := "()V" } : Jvm.MethodName)) ∈ ia_T := ia_in3 (List.mem_of_getElem? (i := 224) rfl) rfl
set_option maxRecDepth 100000 in
theorem iw_815 : (Jvm.Cond.code ({ cls := "EngagedTone$Reader", name := "readClosings", desc := "()V" } : Jvm.MethodName) prog_6_method_19_code (2 : Nat) (Option.none : Option Jvm.ClassFile.FieldType)) ∈ ia_T := ia_in3 (List.mem_of_getElem? (i := 225) rfl) rfl
set_option maxRecDepth 100000 in
theorem iw_816 : (Jvm.Cond.methodLink "EngagedTone$Reader" (183 : Nat) ({ cls := "EngagedTone$Reader", name := "writeDownTo", desc := "(I)V" } : Jvm.MethodName)) ∈ ia_T := ia_in3 (List.mem_of_getElem? (i := 226) rfl) rfl
set_option maxRecDepth 100000 in
theorem iw_818 : (Jvm.Cond.instanceMethod ({ cls := "EngagedTone$Reader", name := "writeDownTo", desc := "(I)V" } : Jvm.MethodName)) ∈ ia_T := ia_in3 (List.mem_of_getElem? (i := 228) rfl) rfl
set_option maxRecDepth 100000 in
theorem iw_819 : (Jvm.Cond.code ({ cls := "EngagedTone$Reader", name := "writeDownTo", desc := "(I)V" } : Jvm.MethodName) prog_6_method_21_code (3 : Nat) (Option.none : Option Jvm.ClassFile.FieldType)) ∈ ia_T := ia_in3 (List.mem_of_getElem? (i := 229) rfl) rfl
set_option maxRecDepth 100000 in
theorem iw_820 : (Jvm.Cond.methodLink "EngagedTone$Reader" (209 : Nat) ({ cls := "java/lang/Math", name := "max", desc := "(II)I" } : Jvm.MethodName)) ∈ ia_T := ia_in3 (List.mem_of_getElem? (i := 230) rfl) rfl
set_option maxRecDepth 100000 in
theorem iw_821 : (Jvm.Cond.methodLink "EngagedTone$Reader" (180 : Nat) ({ cls := "EngagedTone$Reader", name := "readJoin", desc := "()Z" } : Jvm.MethodName)) ∈ ia_T := ia_in3 (List.mem_of_getElem? (i := 231) rfl) rfl
set_option maxRecDepth 100000 in
theorem iw_823 : (Jvm.Cond.instanceMethod ({ cls := "EngagedTone$Reader", name := "readJoin", desc := "()Z" } : Jvm.MethodName)) ∈ ia_T := ia_in3 (List.mem_of_getElem? (i := 233) rfl) rfl
set_option maxRecDepth 100000 in
theorem iw_824 : (Jvm.Cond.code ({ cls := "EngagedTone$Reader", name := "readJoin", desc := "()Z" } : Jvm.MethodName) prog_6_method_20_code (2 : Nat) (Option.some Jvm.ClassFile.FieldType.boolean)) ∈ ia_T := ia_in3 (List.mem_of_getElem? (i := 234) rfl) rfl
set_option maxRecDepth 100000 in
theorem iw_825 : (Jvm.Cond.methodLink "EngagedTone$Reader" (187 : Nat) ({ cls := "EngagedTone$Laws", name := "close", desc := "(II)V" } : Jvm.MethodName)) ∈ ia_T := ia_in3 (List.mem_of_getElem? (i := 235) rfl) rfl
set_option maxRecDepth 100000 in
theorem iw_826 : (Jvm.Cond.instanceMethod ({ cls := "EngagedTone$Laws", name := "close", desc := "(II)V" } : Jvm.MethodName)) ∈ ia_T := ia_in3 (List.mem_of_getElem? (i := 236) rfl) rfl
set_option maxRecDepth 100000 in
theorem iw_827 : (Jvm.Cond.selects "EngagedTone$Laws" ({ cls := "EngagedTone$Laws", name := "close", desc := "(II)V" } : Jvm.MethodName) ({ cls := "EngagedTone$Laws", name := "close", desc := "(II)V" } : Jvm.MethodName)) ∈ ia_T := ia_in3 (List.mem_of_getElem? (i := 237) rfl) rfl
set_option maxRecDepth 100000 in
theorem iw_828 : (Jvm.Cond.code ({ cls := "EngagedTone$Laws", name := "close", desc := "(II)V" } : Jvm.MethodName) prog_5_method_6_code (3 : Nat) (Option.none : Option Jvm.ClassFile.FieldType)) ∈ ia_T := ia_in3 (List.mem_of_getElem? (i := 238) rfl) rfl
set_option maxRecDepth 100000 in
theorem iw_829 : (Jvm.Cond.methodLink "EngagedTone" (79 : Nat) ({ cls := "EngagedTone$Reader", name := "handOver", desc := "(LEngagedTone$Script;)LEngagedTone$Script;" } : Jvm.MethodName)) ∈ ia_T := ia_in3 (List.mem_of_getElem? (i := 239) rfl) rfl
set_option maxRecDepth 100000 in
theorem iw_830 : (Jvm.Cond.instanceMethod ({ cls := "EngagedTone$Reader", name := "handOver", desc := "(LEngagedTone$Script;)LEngagedTone$Script;" } : Jvm.MethodName)) ∈ ia_T := ia_in4 (List.mem_of_getElem? (i := 0) rfl) rfl
set_option maxRecDepth 100000 in
theorem iw_831 : (Jvm.Cond.selects "EngagedTone$Reader" ({ cls := "EngagedTone$Reader", name := "handOver", desc := "(LEngagedTone$Script;)LEngagedTone$Script;" } : Jvm.MethodName) ({ cls := "EngagedTone$Reader", name := "handOver", desc := "(LEngagedTone$Script;)LEngagedTone$Script;" } : Jvm.MethodName)) ∈ ia_T := ia_in4 (List.mem_of_getElem? (i := 1) rfl) rfl
set_option maxRecDepth 100000 in
theorem iw_832 : (Jvm.Cond.code ({ cls := "EngagedTone$Reader", name := "handOver", desc := "(LEngagedTone$Script;)LEngagedTone$Script;" } : Jvm.MethodName) prog_6_method_3_code (3 : Nat) (Option.some (Jvm.ClassFile.FieldType.object "EngagedTone$Script"))) ∈ ia_T := ia_in4 (List.mem_of_getElem? (i := 2) rfl) rfl
set_option maxRecDepth 100000 in
theorem iw_833 : (Jvm.Cond.methodLink "EngagedTone" (86 : Nat) ({ cls := "EngagedTone$World", name := "become", desc := "(LEngagedTone$World;)V" } : Jvm.MethodName)) ∈ ia_T := ia_in4 (List.mem_of_getElem? (i := 3) rfl) rfl
set_option maxRecDepth 100000 in
theorem iw_834 : (Jvm.Cond.instanceMethod ({ cls := "EngagedTone$World", name := "become", desc := "(LEngagedTone$World;)V" } : Jvm.MethodName)) ∈ ia_T := ia_in4 (List.mem_of_getElem? (i := 4) rfl) rfl
set_option maxRecDepth 100000 in
theorem iw_835 : (Jvm.Cond.selects "EngagedTone$World" ({ cls := "EngagedTone$World", name := "become", desc := "(LEngagedTone$World;)V" } : Jvm.MethodName) ({ cls := "EngagedTone$World", name := "become", desc := "(LEngagedTone$World;)V" } : Jvm.MethodName)) ∈ ia_T := ia_in4 (List.mem_of_getElem? (i := 5) rfl) rfl
set_option maxRecDepth 100000 in
theorem iw_836 : (Jvm.Cond.code ({ cls := "EngagedTone$World", name := "become", desc := "(LEngagedTone$World;)V" } : Jvm.MethodName) prog_10_method_3_code (2 : Nat) (Option.none : Option Jvm.ClassFile.FieldType)) ∈ ia_T := ia_in4 (List.mem_of_getElem? (i := 6) rfl) rfl
set_option maxRecDepth 100000 in
theorem iw_837 : (Jvm.Cond.methodLink "EngagedTone$World" (61 : Nat) ({ cls := "java/lang/System", name := "arraycopy", desc := "(Ljava/lang/Object;ILjava/lang/Object;II)V" } : Jvm.MethodName)) ∈ ia_T := ia_in4 (List.mem_of_getElem? (i := 7) rfl) rfl
set_option maxRecDepth 100000 in
theorem iw_838 : (Jvm.Cond.static ({ cls := "java/lang/System", name := "arraycopy", desc := "(Ljava/lang/Object;ILjava/lang/Object;II)V" } : Jvm.MethodName)) ∈ ia_T := ia_in4 (List.mem_of_getElem? (i := 8) rfl) rfl
set_option maxRecDepth 100000 in
theorem iw_839 : (Jvm.Cond.native ({ cls := "java/lang/System", name := "arraycopy", desc := "(Ljava/lang/Object;ILjava/lang/Object;II)V" } : Jvm.MethodName)) ∈ ia_T := ia_in4 (List.mem_of_getElem? (i := 9) rfl) rfl
set_option maxRecDepth 100000 in
theorem iw_840 : (Jvm.Cond.methodLink "EngagedTone" (90 : Nat) ({ cls := "EngagedTone$Rumours", name := "wipe", desc := "()V" } : Jvm.MethodName)) ∈ ia_T := ia_in4 (List.mem_of_getElem? (i := 10) rfl) rfl
set_option maxRecDepth 100000 in
theorem iw_841 : (Jvm.Cond.instanceMethod ({ cls := "EngagedTone$Rumours", name := "wipe", desc := "()V" } : Jvm.MethodName)) ∈ ia_T := ia_in4 (List.mem_of_getElem? (i := 11) rfl) rfl
set_option maxRecDepth 100000 in
theorem iw_842 : (Jvm.Cond.selects "EngagedTone$Rumours" ({ cls := "EngagedTone$Rumours", name := "wipe", desc := "()V" } : Jvm.MethodName) ({ cls := "EngagedTone$Rumours", name := "wipe", desc := "()V" } : Jvm.MethodName)) ∈ ia_T := ia_in4 (List.mem_of_getElem? (i := 12) rfl) rfl
set_option maxRecDepth 100000 in
theorem iw_843 : (Jvm.Cond.code ({ cls := "EngagedTone$Rumours", name := "wipe", desc := "()V" } : Jvm.MethodName) prog_7_method_2_code (1 : Nat) (Option.none : Option Jvm.ClassFile.FieldType)) ∈ ia_T := ia_in4 (List.mem_of_getElem? (i := 13) rfl) rfl
set_option maxRecDepth 100000 in
theorem iw_844 : (Jvm.Cond.methodLink "EngagedTone" (93 : Nat) ({ cls := "EngagedTone$Deeds", name := "wipe", desc := "()V" } : Jvm.MethodName)) ∈ ia_T := ia_in4 (List.mem_of_getElem? (i := 14) rfl) rfl
set_option maxRecDepth 100000 in
theorem iw_845 : (Jvm.Cond.instanceMethod ({ cls := "EngagedTone$Deeds", name := "wipe", desc := "()V" } : Jvm.MethodName)) ∈ ia_T := ia_in4 (List.mem_of_getElem? (i := 15) rfl) rfl
set_option maxRecDepth 100000 in
theorem iw_846 : (Jvm.Cond.selects "EngagedTone$Deeds" ({ cls := "EngagedTone$Deeds", name := "wipe", desc := "()V" } : Jvm.MethodName) ({ cls := "EngagedTone$Deeds", name := "wipe", desc := "()V" } : Jvm.MethodName)) ∈ ia_T := ia_in4 (List.mem_of_getElem? (i := 16) rfl) rfl
set_option maxRecDepth 100000 in
theorem iw_847 : (Jvm.Cond.code ({ cls := "EngagedTone$Deeds", name := "wipe", desc := "()V" } : Jvm.MethodName) prog_2_method_2_code (1 : Nat) (Option.none : Option Jvm.ClassFile.FieldType)) ∈ ia_T := ia_in4 (List.mem_of_getElem? (i := 17) rfl) rfl
set_option maxRecDepth 100000 in
theorem iw_848 : (Jvm.Cond.methodLink "EngagedToneLaw" (31 : Nat) ({ cls := "EngagedTone", name := "fault", desc := "(I)I" } : Jvm.MethodName)) ∈ ia_T := ia_in4 (List.mem_of_getElem? (i := 18) rfl) rfl
set_option maxRecDepth 100000 in
theorem iw_849 : (Jvm.Cond.instanceMethod ({ cls := "EngagedTone", name := "fault", desc := "(I)I" } : Jvm.MethodName)) ∈ ia_T := ia_in4 (List.mem_of_getElem? (i := 19) rfl) rfl
set_option maxRecDepth 100000 in
theorem iw_850 : (Jvm.Cond.selects "EngagedTone" ({ cls := "EngagedTone", name := "fault", desc := "(I)I" } : Jvm.MethodName) ({ cls := "EngagedTone", name := "fault", desc := "(I)I" } : Jvm.MethodName)) ∈ ia_T := ia_in4 (List.mem_of_getElem? (i := 20) rfl) rfl
set_option maxRecDepth 100000 in
theorem iw_851 : (Jvm.Cond.code ({ cls := "EngagedTone", name := "fault", desc := "(I)I" } : Jvm.MethodName) prog_1_method_5_code (2 : Nat) (Option.some Jvm.ClassFile.FieldType.int)) ∈ ia_T := ia_in4 (List.mem_of_getElem? (i := 21) rfl) rfl
set_option maxRecDepth 100000 in
theorem iw_852 : (Jvm.Cond.methodLink "EngagedToneLaw" (35 : Nat) ({ cls := "EngagedTone", name := "named", desc := "(I)I" } : Jvm.MethodName)) ∈ ia_T := ia_in4 (List.mem_of_getElem? (i := 22) rfl) rfl
set_option maxRecDepth 100000 in
theorem iw_853 : (Jvm.Cond.instanceMethod ({ cls := "EngagedTone", name := "named", desc := "(I)I" } : Jvm.MethodName)) ∈ ia_T := ia_in4 (List.mem_of_getElem? (i := 23) rfl) rfl
set_option maxRecDepth 100000 in
theorem iw_854 : (Jvm.Cond.selects "EngagedTone" ({ cls := "EngagedTone", name := "named", desc := "(I)I" } : Jvm.MethodName) ({ cls := "EngagedTone", name := "named", desc := "(I)I" } : Jvm.MethodName)) ∈ ia_T := ia_in4 (List.mem_of_getElem? (i := 24) rfl) rfl
set_option maxRecDepth 100000 in
theorem iw_855 : (Jvm.Cond.code ({ cls := "EngagedTone", name := "named", desc := "(I)I" } : Jvm.MethodName) prog_1_method_6_code (2 : Nat) (Option.some Jvm.ClassFile.FieldType.int)) ∈ ia_T := ia_in4 (List.mem_of_getElem? (i := 25) rfl) rfl
set_option maxRecDepth 100000 in
theorem iw_856 : (Jvm.Cond.methodLink "EngagedTone" (107 : Nat) ({ cls := "EngagedTone$Script", name := "personNamed", desc := "(I)I" } : Jvm.MethodName)) ∈ ia_T := ia_in4 (List.mem_of_getElem? (i := 26) rfl) rfl
set_option maxRecDepth 100000 in
theorem iw_857 : (Jvm.Cond.methodLink "EngagedToneLaw" (49 : Nat) ({ cls := "EngagedTone", name := "man", desc := "(II)I" } : Jvm.MethodName)) ∈ ia_T := ia_in4 (List.mem_of_getElem? (i := 27) rfl) rfl
set_option maxRecDepth 100000 in
theorem iw_858 : (Jvm.Cond.instanceMethod ({ cls := "EngagedTone", name := "man", desc := "(II)I" } : Jvm.MethodName)) ∈ ia_T := ia_in4 (List.mem_of_getElem? (i := 28) rfl) rfl
set_option maxRecDepth 100000 in
theorem iw_859 : (Jvm.Cond.selects "EngagedTone" ({ cls := "EngagedTone", name := "man", desc := "(II)I" } : Jvm.MethodName) ({ cls := "EngagedTone", name := "man", desc := "(II)I" } : Jvm.MethodName)) ∈ ia_T := ia_in4 (List.mem_of_getElem? (i := 29) rfl) rfl
set_option maxRecDepth 100000 in
theorem iw_860 : (Jvm.Cond.code ({ cls := "EngagedTone", name := "man", desc := "(II)I" } : Jvm.MethodName) prog_1_method_8_code (3 : Nat) (Option.some Jvm.ClassFile.FieldType.int)) ∈ ia_T := ia_in4 (List.mem_of_getElem? (i := 30) rfl) rfl
set_option maxRecDepth 100000 in
theorem iw_861 : (Jvm.Cond.methodLink "EngagedTone" (146 : Nat) ({ cls := "EngagedTone", name := "isPerson", desc := "(I)Z" } : Jvm.MethodName)) ∈ ia_T := ia_in4 (List.mem_of_getElem? (i := 31) rfl) rfl
set_option maxRecDepth 100000 in
theorem iw_863 : (Jvm.Cond.instanceMethod ({ cls := "EngagedTone", name := "isPerson", desc := "(I)Z" } : Jvm.MethodName)) ∈ ia_T := ia_in4 (List.mem_of_getElem? (i := 33) rfl) rfl
set_option maxRecDepth 100000 in
theorem iw_864 : (Jvm.Cond.code ({ cls := "EngagedTone", name := "isPerson", desc := "(I)Z" } : Jvm.MethodName) prog_1_method_46_code (2 : Nat) (Option.some Jvm.ClassFile.FieldType.boolean)) ∈ ia_T := ia_in4 (List.mem_of_getElem? (i := 34) rfl) rfl
set_option maxRecDepth 100000 in
theorem iw_865 : (Jvm.Cond.methodLink "EngagedTone" (158 : Nat) ({ cls := "EngagedTone$World", name := "engaged", desc := "()I" } : Jvm.MethodName)) ∈ ia_T := ia_in4 (List.mem_of_getElem? (i := 35) rfl) rfl
set_option maxRecDepth 100000 in
theorem iw_866 : (Jvm.Cond.instanceMethod ({ cls := "EngagedTone$World", name := "engaged", desc := "()I" } : Jvm.MethodName)) ∈ ia_T := ia_in4 (List.mem_of_getElem? (i := 36) rfl) rfl
set_option maxRecDepth 100000 in
theorem iw_867 : (Jvm.Cond.selects "EngagedTone$World" ({ cls := "EngagedTone$World", name := "engaged", desc := "()I" } : Jvm.MethodName) ({ cls := "EngagedTone$World", name := "engaged", desc := "()I" } : Jvm.MethodName)) ∈ ia_T := ia_in4 (List.mem_of_getElem? (i := 37) rfl) rfl
set_option maxRecDepth 100000 in
theorem iw_868 : (Jvm.Cond.code ({ cls := "EngagedTone$World", name := "engaged", desc := "()I" } : Jvm.MethodName) prog_10_method_9_code (1 : Nat) (Option.some Jvm.ClassFile.FieldType.int)) ∈ ia_T := ia_in4 (List.mem_of_getElem? (i := 38) rfl) rfl
set_option maxRecDepth 100000 in
theorem iw_869 : (Jvm.Cond.methodLink "EngagedTone$World" (67 : Nat) ({ cls := "EngagedTone$World", name := "talking", desc := "()I" } : Jvm.MethodName)) ∈ ia_T := ia_in4 (List.mem_of_getElem? (i := 39) rfl) rfl
set_option maxRecDepth 100000 in
theorem iw_870 : (Jvm.Cond.instanceMethod ({ cls := "EngagedTone$World", name := "talking", desc := "()I" } : Jvm.MethodName)) ∈ ia_T := ia_in4 (List.mem_of_getElem? (i := 40) rfl) rfl
set_option maxRecDepth 100000 in
theorem iw_871 : (Jvm.Cond.selects "EngagedTone$World" ({ cls := "EngagedTone$World", name := "talking", desc := "()I" } : Jvm.MethodName) ({ cls := "EngagedTone$World", name := "talking", desc := "()I" } : Jvm.MethodName)) ∈ ia_T := ia_in4 (List.mem_of_getElem? (i := 41) rfl) rfl
set_option maxRecDepth 100000 in
theorem iw_872 : (Jvm.Cond.code ({ cls := "EngagedTone$World", name := "talking", desc := "()I" } : Jvm.MethodName) prog_10_method_7_code (3 : Nat) (Option.some Jvm.ClassFile.FieldType.int)) ∈ ia_T := ia_in4 (List.mem_of_getElem? (i := 42) rfl) rfl
set_option maxRecDepth 100000 in
theorem iw_873 : (Jvm.Cond.methodLink "EngagedTone$World" (71 : Nat) ({ cls := "EngagedTone$World", name := "toning", desc := "()I" } : Jvm.MethodName)) ∈ ia_T := ia_in4 (List.mem_of_getElem? (i := 43) rfl) rfl
set_option maxRecDepth 100000 in
theorem iw_874 : (Jvm.Cond.instanceMethod ({ cls := "EngagedTone$World", name := "toning", desc := "()I" } : Jvm.MethodName)) ∈ ia_T := ia_in4 (List.mem_of_getElem? (i := 44) rfl) rfl
set_option maxRecDepth 100000 in
theorem iw_875 : (Jvm.Cond.selects "EngagedTone$World" ({ cls := "EngagedTone$World", name := "toning", desc := "()I" } : Jvm.MethodName) ({ cls := "EngagedTone$World", name := "toning", desc := "()I" } : Jvm.MethodName)) ∈ ia_T := ia_in4 (List.mem_of_getElem? (i := 45) rfl) rfl
set_option maxRecDepth 100000 in
theorem iw_876 : (Jvm.Cond.code ({ cls := "EngagedTone$World", name := "toning", desc := "()I" } : Jvm.MethodName) prog_10_method_8_code (3 : Nat) (Option.some Jvm.ClassFile.FieldType.int)) ∈ ia_T := ia_in4 (List.mem_of_getElem? (i := 46) rfl) rfl
set_option maxRecDepth 100000 in
theorem iw_877 : (Jvm.Cond.methodLink "EngagedTone" (162 : Nat) ({ cls := "EngagedTone$World", name := "ringOf", desc := "(I)I" } : Jvm.MethodName)) ∈ ia_T := ia_in4 (List.mem_of_getElem? (i := 47) rfl) rfl
set_option maxRecDepth 100000 in
theorem iw_878 : (Jvm.Cond.instanceMethod ({ cls := "EngagedTone$World", name := "ringOf", desc := "(I)I" } : Jvm.MethodName)) ∈ ia_T := ia_in4 (List.mem_of_getElem? (i := 48) rfl) rfl
set_option maxRecDepth 100000 in
theorem iw_879 : (Jvm.Cond.selects "EngagedTone$World" ({ cls := "EngagedTone$World", name := "ringOf", desc := "(I)I" } : Jvm.MethodName) ({ cls := "EngagedTone$World", name := "ringOf", desc := "(I)I" } : Jvm.MethodName)) ∈ ia_T := ia_in4 (List.mem_of_getElem? (i := 49) rfl) rfl
set_option maxRecDepth 100000 in
theorem iw_880 : (Jvm.Cond.code ({ cls := "EngagedTone$World", name := "ringOf", desc := "(I)I" } : Jvm.MethodName) prog_10_method_10_code (3 : Nat) (Option.some Jvm.ClassFile.FieldType.int)) ∈ ia_T := ia_in4 (List.mem_of_getElem? (i := 50) rfl) rfl
set_option maxRecDepth 100000 in
theorem iw_881 : (Jvm.Cond.methodLink "EngagedToneLaw" (53 : Nat) ({ cls := "EngagedTone", name := "tone", desc := "(II)I" } : Jvm.MethodName)) ∈ ia_T := ia_in4 (List.mem_of_getElem? (i := 51) rfl) rfl
set_option maxRecDepth 100000 in
theorem iw_882 : (Jvm.Cond.instanceMethod ({ cls := "EngagedTone", name := "tone", desc := "(II)I" } : Jvm.MethodName)) ∈ ia_T := ia_in4 (List.mem_of_getElem? (i := 52) rfl) rfl
set_option maxRecDepth 100000 in
theorem iw_883 : (Jvm.Cond.selects "EngagedTone" ({ cls := "EngagedTone", name := "tone", desc := "(II)I" } : Jvm.MethodName) ({ cls := "EngagedTone", name := "tone", desc := "(II)I" } : Jvm.MethodName)) ∈ ia_T := ia_in4 (List.mem_of_getElem? (i := 53) rfl) rfl
set_option maxRecDepth 100000 in
theorem iw_884 : (Jvm.Cond.code ({ cls := "EngagedTone", name := "tone", desc := "(II)I" } : Jvm.MethodName) prog_1_method_9_code (3 : Nat) (Option.some Jvm.ClassFile.FieldType.int)) ∈ ia_T := ia_in4 (List.mem_of_getElem? (i := 54) rfl) rfl
set_option maxRecDepth 100000 in
theorem iw_885 : (Jvm.Cond.methodLink "EngagedTone" (165 : Nat) ({ cls := "EngagedTone", name := "isTone", desc := "(I)Z" } : Jvm.MethodName)) ∈ ia_T := ia_in4 (List.mem_of_getElem? (i := 55) rfl) rfl
set_option maxRecDepth 100000 in
theorem iw_887 : (Jvm.Cond.instanceMethod ({ cls := "EngagedTone", name := "isTone", desc := "(I)Z" } : Jvm.MethodName)) ∈ ia_T := ia_in4 (List.mem_of_getElem? (i := 57) rfl) rfl
set_option maxRecDepth 100000 in
theorem iw_888 : (Jvm.Cond.code ({ cls := "EngagedTone", name := "isTone", desc := "(I)Z" } : Jvm.MethodName) prog_1_method_47_code (2 : Nat) (Option.some Jvm.ClassFile.FieldType.boolean)) ∈ ia_T := ia_in4 (List.mem_of_getElem? (i := 58) rfl) rfl
set_option maxRecDepth 100000 in
theorem iw_889 : (Jvm.Cond.methodLink "EngagedToneLaw" (57 : Nat) ({ cls := "EngagedTone", name := "price", desc := "(I)I" } : Jvm.MethodName)) ∈ ia_T := ia_in4 (List.mem_of_getElem? (i := 59) rfl) rfl
set_option maxRecDepth 100000 in
theorem iw_890 : (Jvm.Cond.instanceMethod ({ cls := "EngagedTone", name := "price", desc := "(I)I" } : Jvm.MethodName)) ∈ ia_T := ia_in4 (List.mem_of_getElem? (i := 60) rfl) rfl
set_option maxRecDepth 100000 in
theorem iw_891 : (Jvm.Cond.selects "EngagedTone" ({ cls := "EngagedTone", name := "price", desc := "(I)I" } : Jvm.MethodName) ({ cls := "EngagedTone", name := "price", desc := "(I)I" } : Jvm.MethodName)) ∈ ia_T := ia_in4 (List.mem_of_getElem? (i := 61) rfl) rfl
set_option maxRecDepth 100000 in
theorem iw_892 : (Jvm.Cond.code ({ cls := "EngagedTone", name := "price", desc := "(I)I" } : Jvm.MethodName) prog_1_method_10_code (2 : Nat) (Option.some Jvm.ClassFile.FieldType.int)) ∈ ia_T := ia_in4 (List.mem_of_getElem? (i := 62) rfl) rfl
set_option maxRecDepth 100000 in
theorem iw_893 : (Jvm.Cond.methodLink "EngagedTone" (180 : Nat) ({ cls := "EngagedTone$Script", name := "priceAt", desc := "(I)I" } : Jvm.MethodName)) ∈ ia_T := ia_in4 (List.mem_of_getElem? (i := 63) rfl) rfl
set_option maxRecDepth 100000 in
theorem iw_894 : (Jvm.Cond.instanceMethod ({ cls := "EngagedTone$Script", name := "priceAt", desc := "(I)I" } : Jvm.MethodName)) ∈ ia_T := ia_in4 (List.mem_of_getElem? (i := 64) rfl) rfl
set_option maxRecDepth 100000 in
theorem iw_895 : (Jvm.Cond.selects "EngagedTone$Script" ({ cls := "EngagedTone$Script", name := "priceAt", desc := "(I)I" } : Jvm.MethodName) ({ cls := "EngagedTone$Script", name := "priceAt", desc := "(I)I" } : Jvm.MethodName)) ∈ ia_T := ia_in4 (List.mem_of_getElem? (i := 65) rfl) rfl
set_option maxRecDepth 100000 in
theorem iw_896 : (Jvm.Cond.code ({ cls := "EngagedTone$Script", name := "priceAt", desc := "(I)I" } : Jvm.MethodName) prog_8_method_4_code (5 : Nat) (Option.some Jvm.ClassFile.FieldType.int)) ∈ ia_T := ia_in4 (List.mem_of_getElem? (i := 66) rfl) rfl
set_option maxRecDepth 100000 in
theorem iw_897 : (Jvm.Cond.methodLink "EngagedToneLaw" (61 : Nat) ({ cls := "EngagedTone", name := "law", desc := "(II)J" } : Jvm.MethodName)) ∈ ia_T := ia_in4 (List.mem_of_getElem? (i := 67) rfl) rfl
set_option maxRecDepth 100000 in
theorem iw_898 : (Jvm.Cond.instanceMethod ({ cls := "EngagedTone", name := "law", desc := "(II)J" } : Jvm.MethodName)) ∈ ia_T := ia_in4 (List.mem_of_getElem? (i := 68) rfl) rfl
set_option maxRecDepth 100000 in
theorem iw_899 : (Jvm.Cond.selects "EngagedTone" ({ cls := "EngagedTone", name := "law", desc := "(II)J" } : Jvm.MethodName) ({ cls := "EngagedTone", name := "law", desc := "(II)J" } : Jvm.MethodName)) ∈ ia_T := ia_in4 (List.mem_of_getElem? (i := 69) rfl) rfl
set_option maxRecDepth 100000 in
theorem iw_900 : (Jvm.Cond.code ({ cls := "EngagedTone", name := "law", desc := "(II)J" } : Jvm.MethodName) prog_1_method_11_code (3 : Nat) (Option.some Jvm.ClassFile.FieldType.long)) ∈ ia_T := ia_in4 (List.mem_of_getElem? (i := 70) rfl) rfl
set_option maxRecDepth 100000 in
theorem iw_901 : (Jvm.Cond.methodLink "EngagedTone" (183 : Nat) ({ cls := "EngagedTone$Exchange", name := "open", desc := "(LEngagedTone$Script;)V" } : Jvm.MethodName)) ∈ ia_T := ia_in4 (List.mem_of_getElem? (i := 71) rfl) rfl
set_option maxRecDepth 100000 in
theorem iw_902 : (Jvm.Cond.instanceMethod ({ cls := "EngagedTone$Exchange", name := "open", desc := "(LEngagedTone$Script;)V" } : Jvm.MethodName)) ∈ ia_T := ia_in4 (List.mem_of_getElem? (i := 72) rfl) rfl
set_option maxRecDepth 100000 in
theorem iw_903 : (Jvm.Cond.selects "EngagedTone$Exchange" ({ cls := "EngagedTone$Exchange", name := "open", desc := "(LEngagedTone$Script;)V" } : Jvm.MethodName) ({ cls := "EngagedTone$Exchange", name := "open", desc := "(LEngagedTone$Script;)V" } : Jvm.MethodName)) ∈ ia_T := ia_in4 (List.mem_of_getElem? (i := 73) rfl) rfl
set_option maxRecDepth 100000 in
theorem iw_904 : (Jvm.Cond.code ({ cls := "EngagedTone$Exchange", name := "open", desc := "(LEngagedTone$Script;)V" } : Jvm.MethodName) prog_3_method_2_code (2 : Nat) (Option.none : Option Jvm.ClassFile.FieldType)) ∈ ia_T := ia_in4 (List.mem_of_getElem? (i := 74) rfl) rfl
set_option maxRecDepth 100000 in
theorem iw_905 : (Jvm.Cond.methodLink "EngagedTone$Exchange" (22 : Nat) ({ cls := "EngagedTone$Script", name := "lineCount", desc := "()I" } : Jvm.MethodName)) ∈ ia_T := ia_in4 (List.mem_of_getElem? (i := 75) rfl) rfl
set_option maxRecDepth 100000 in
theorem iw_906 : (Jvm.Cond.instanceMethod ({ cls := "EngagedTone$Script", name := "lineCount", desc := "()I" } : Jvm.MethodName)) ∈ ia_T := ia_in4 (List.mem_of_getElem? (i := 76) rfl) rfl
set_option maxRecDepth 100000 in
theorem iw_907 : (Jvm.Cond.selects "EngagedTone$Script" ({ cls := "EngagedTone$Script", name := "lineCount", desc := "()I" } : Jvm.MethodName) ({ cls := "EngagedTone$Script", name := "lineCount", desc := "()I" } : Jvm.MethodName)) ∈ ia_T := ia_in4 (List.mem_of_getElem? (i := 77) rfl) rfl
set_option maxRecDepth 100000 in
theorem iw_908 : (Jvm.Cond.code ({ cls := "EngagedTone$Script", name := "lineCount", desc := "()I" } : Jvm.MethodName) prog_8_method_5_code (1 : Nat) (Option.some Jvm.ClassFile.FieldType.int)) ∈ ia_T := ia_in4 (List.mem_of_getElem? (i := 78) rfl) rfl
set_option maxRecDepth 100000 in
theorem iw_909 : (Jvm.Cond.methodLink "EngagedTone$Exchange" (29 : Nat) ({ cls := "EngagedTone$Script", name := "tryCount", desc := "()I" } : Jvm.MethodName)) ∈ ia_T := ia_in4 (List.mem_of_getElem? (i := 79) rfl) rfl
set_option maxRecDepth 100000 in
theorem iw_910 : (Jvm.Cond.instanceMethod ({ cls := "EngagedTone$Script", name := "tryCount", desc := "()I" } : Jvm.MethodName)) ∈ ia_T := ia_in4 (List.mem_of_getElem? (i := 80) rfl) rfl
set_option maxRecDepth 100000 in
theorem iw_911 : (Jvm.Cond.selects "EngagedTone$Script" ({ cls := "EngagedTone$Script", name := "tryCount", desc := "()I" } : Jvm.MethodName) ({ cls := "EngagedTone$Script", name := "tryCount", desc := "()I" } : Jvm.MethodName)) ∈ ia_T := ia_in4 (List.mem_of_getElem? (i := 81) rfl) rfl
set_option maxRecDepth 100000 in
theorem iw_912 : (Jvm.Cond.code ({ cls := "EngagedTone$Script", name := "tryCount", desc := "()I" } : Jvm.MethodName) prog_8_method_6_code (1 : Nat) (Option.some Jvm.ClassFile.FieldType.int)) ∈ ia_T := ia_in4 (List.mem_of_getElem? (i := 82) rfl) rfl
set_option maxRecDepth 100000 in
theorem iw_913 : (Jvm.Cond.methodLink "EngagedTone" (111 : Nat) ({ cls := "EngagedTone", name := "isRing", desc := "(I)Z" } : Jvm.MethodName)) ∈ ia_T := ia_in4 (List.mem_of_getElem? (i := 83) rfl) rfl
set_option maxRecDepth 100000 in
theorem iw_915 : (Jvm.Cond.instanceMethod ({ cls := "EngagedTone", name := "isRing", desc := "(I)Z" } : Jvm.MethodName)) ∈ ia_T := ia_in4 (List.mem_of_getElem? (i := 85) rfl) rfl
set_option maxRecDepth 100000 in
theorem iw_916 : (Jvm.Cond.code ({ cls := "EngagedTone", name := "isRing", desc := "(I)Z" } : Jvm.MethodName) prog_1_method_48_code (2 : Nat) (Option.some Jvm.ClassFile.FieldType.boolean)) ∈ ia_T := ia_in4 (List.mem_of_getElem? (i := 86) rfl) rfl
set_option maxRecDepth 100000 in
theorem iw_917 : (Jvm.Cond.methodLink "EngagedTone" (187 : Nat) ({ cls := "EngagedTone$Exchange", name := "valueOf", desc := "(LEngagedTone$World;III)J" } : Jvm.MethodName)) ∈ ia_T := ia_in4 (List.mem_of_getElem? (i := 87) rfl) rfl
set_option maxRecDepth 100000 in
theorem iw_918 : (Jvm.Cond.instanceMethod ({ cls := "EngagedTone$Exchange", name := "valueOf", desc := "(LEngagedTone$World;III)J" } : Jvm.MethodName)) ∈ ia_T := ia_in4 (List.mem_of_getElem? (i := 88) rfl) rfl
set_option maxRecDepth 100000 in
theorem iw_919 : (Jvm.Cond.selects "EngagedTone$Exchange" ({ cls := "EngagedTone$Exchange", name := "valueOf", desc := "(LEngagedTone$World;III)J" } : Jvm.MethodName) ({ cls := "EngagedTone$Exchange", name := "valueOf", desc := "(LEngagedTone$World;III)J" } : Jvm.MethodName)) ∈ ia_T := ia_in4 (List.mem_of_getElem? (i := 89) rfl) rfl
set_option maxRecDepth 100000 in
theorem iw_920 : (Jvm.Cond.code ({ cls := "EngagedTone$Exchange", name := "valueOf", desc := "(LEngagedTone$World;III)J" } : Jvm.MethodName) prog_3_method_9_code (6 : Nat) (Option.some Jvm.ClassFile.FieldType.long)) ∈ ia_T := ia_in4 (List.mem_of_getElem? (i := 90) rfl) rfl
set_option maxRecDepth 100000 in
theorem iw_921 : (Jvm.Cond.methodLink "EngagedTone$Exchange" (173 : Nat) ({ cls := "EngagedTone$Laws", name := "isTold", desc := "(I)Z" } : Jvm.MethodName)) ∈ ia_T := ia_in4 (List.mem_of_getElem? (i := 91) rfl) rfl
set_option maxRecDepth 100000 in
theorem iw_922 : (Jvm.Cond.constantLong "EngagedTone$Exchange" (105 : Nat) (-9223372036854775808 : Int64)) ∈ ia_T := ia_in4 (List.mem_of_getElem? (i := 92) rfl) rfl
set_option maxRecDepth 100000 in
theorem iw_923 : (Jvm.Cond.methodLink "EngagedTone$Exchange" (183 : Nat) ({ cls := "EngagedTone$World", name := "engaged", desc := "()I" } : Jvm.MethodName)) ∈ ia_T := ia_in4 (List.mem_of_getElem? (i := 93) rfl) rfl
set_option maxRecDepth 100000 in
theorem iw_924 : (Jvm.Cond.methodLink "EngagedTone$Exchange" (186 : Nat) ({ cls := "java/lang/Integer", name := "bitCount", desc := "(I)I" } : Jvm.MethodName)) ∈ ia_T := ia_in4 (List.mem_of_getElem? (i := 94) rfl) rfl
set_option maxRecDepth 100000 in
theorem iw_925 : (Jvm.Cond.static ({ cls := "java/lang/Integer", name := "bitCount", desc := "(I)I" } : Jvm.MethodName)) ∈ ia_T := ia_in4 (List.mem_of_getElem? (i := 95) rfl) rfl
set_option maxRecDepth 100000 in
theorem iw_926 : (Jvm.Cond.code ({ cls := "java/lang/Integer", name := "bitCount", desc := "(I)I" } : Jvm.MethodName) prog_19_method_49_code (1 : Nat) (Option.some Jvm.ClassFile.FieldType.int)) ∈ ia_T := ia_in4 (List.mem_of_getElem? (i := 96) rfl) rfl
set_option maxRecDepth 100000 in
theorem iw_927 : (Jvm.Cond.constant "java/lang/Integer" (265 : Nat) (1431655765 : Int32)) ∈ ia_T := ia_in4 (List.mem_of_getElem? (i := 97) rfl) rfl
set_option maxRecDepth 100000 in
theorem iw_928 : (Jvm.Cond.constant "java/lang/Integer" (266 : Nat) (858993459 : Int32)) ∈ ia_T := ia_in4 (List.mem_of_getElem? (i := 98) rfl) rfl
set_option maxRecDepth 100000 in
theorem iw_929 : (Jvm.Cond.constant "java/lang/Integer" (267 : Nat) (252645135 : Int32)) ∈ ia_T := ia_in4 (List.mem_of_getElem? (i := 99) rfl) rfl
set_option maxRecDepth 100000 in
theorem iw_930 : (Jvm.Cond.methodLink "EngagedTone$Exchange" (107 : Nat) ({ cls := "EngagedTone$Script", name := "priceAt", desc := "(I)I" } : Jvm.MethodName)) ∈ ia_T := ia_in4 (List.mem_of_getElem? (i := 100) rfl) rfl
set_option maxRecDepth 100000 in
theorem iw_931 : (Jvm.Cond.methodLink "EngagedTone$Exchange" (191 : Nat) ({ cls := "EngagedTone$Laws", name := "work", desc := "(I)J" } : Jvm.MethodName)) ∈ ia_T := ia_in4 (List.mem_of_getElem? (i := 101) rfl) rfl
set_option maxRecDepth 100000 in
theorem iw_932 : (Jvm.Cond.instanceMethod ({ cls := "EngagedTone$Laws", name := "work", desc := "(I)J" } : Jvm.MethodName)) ∈ ia_T := ia_in4 (List.mem_of_getElem? (i := 102) rfl) rfl
set_option maxRecDepth 100000 in
theorem iw_933 : (Jvm.Cond.selects "EngagedTone$Laws" ({ cls := "EngagedTone$Laws", name := "work", desc := "(I)J" } : Jvm.MethodName) ({ cls := "EngagedTone$Laws", name := "work", desc := "(I)J" } : Jvm.MethodName)) ∈ ia_T := ia_in4 (List.mem_of_getElem? (i := 103) rfl) rfl
set_option maxRecDepth 100000 in
theorem iw_934 : (Jvm.Cond.code ({ cls := "EngagedTone$Laws", name := "work", desc := "(I)J" } : Jvm.MethodName) prog_5_method_7_code (5 : Nat) (Option.some Jvm.ClassFile.FieldType.long)) ∈ ia_T := ia_in4 (List.mem_of_getElem? (i := 104) rfl) rfl
set_option maxRecDepth 100000 in
theorem iw_935 : (Jvm.Cond.methodLink "EngagedTone$Laws" (38 : Nat) ({ cls := "EngagedTone$Laws", name := "isTold", desc := "(I)Z" } : Jvm.MethodName)) ∈ ia_T := ia_in4 (List.mem_of_getElem? (i := 105) rfl) rfl
set_option maxRecDepth 100000 in
theorem iw_936 : (Jvm.Cond.constantLong "EngagedTone$Laws" (42 : Nat) (-9223372036854775808 : Int64)) ∈ ia_T := ia_in4 (List.mem_of_getElem? (i := 106) rfl) rfl
set_option maxRecDepth 100000 in
theorem iw_937 : (Jvm.Cond.methodLink "EngagedTone$Laws" (44 : Nat) ({ cls := "EngagedTone$Laws", name := "isMeaning", desc := "(I)Z" } : Jvm.MethodName)) ∈ ia_T := ia_in4 (List.mem_of_getElem? (i := 107) rfl) rfl
set_option maxRecDepth 100000 in
theorem iw_938 : (Jvm.Cond.static ({ cls := "EngagedTone$Laws", name := "isMeaning", desc := "(I)Z" } : Jvm.MethodName)) ∈ ia_T := ia_in4 (List.mem_of_getElem? (i := 108) rfl) rfl
set_option maxRecDepth 100000 in
theorem iw_939 : (Jvm.Cond.code ({ cls := "EngagedTone$Laws", name := "isMeaning", desc := "(I)Z" } : Jvm.MethodName) prog_5_method_8_code (1 : Nat) (Option.some Jvm.ClassFile.FieldType.boolean)) ∈ ia_T := ia_in4 (List.mem_of_getElem? (i := 109) rfl) rfl
set_option maxRecDepth 100000 in
theorem iw_940 : (Jvm.Cond.methodLink "EngagedTone$Laws" (47 : Nat) ({ cls := "EngagedTone$Laws", name := "join", desc := "(IJJ)J" } : Jvm.MethodName)) ∈ ia_T := ia_in4 (List.mem_of_getElem? (i := 110) rfl) rfl
set_option maxRecDepth 100000 in
theorem iw_941 : (Jvm.Cond.static ({ cls := "EngagedTone$Laws", name := "join", desc := "(IJJ)J" } : Jvm.MethodName)) ∈ ia_T := ia_in4 (List.mem_of_getElem? (i := 111) rfl) rfl
set_option maxRecDepth 100000 in
theorem iw_942 : (Jvm.Cond.code ({ cls := "EngagedTone$Laws", name := "join", desc := "(IJJ)J" } : Jvm.MethodName) prog_5_method_9_code (7 : Nat) (Option.some Jvm.ClassFile.FieldType.long)) ∈ ia_T := ia_in4 (List.mem_of_getElem? (i := 112) rfl) rfl
set_option maxRecDepth 100000 in
theorem iw_943 : (Jvm.Cond.constantLong "EngagedTone$Laws" (51 : Nat) (1000000000000 : Int64)) ∈ ia_T := ia_in4 (List.mem_of_getElem? (i := 113) rfl) rfl
set_option maxRecDepth 100000 in
theorem iw_944 : (Jvm.Cond.constantLong "EngagedTone$Laws" (53 : Nat) (-1000000000000 : Int64)) ∈ ia_T := ia_in4 (List.mem_of_getElem? (i := 114) rfl) rfl
set_option maxRecDepth 100000 in
theorem iw_945 : (Jvm.Cond.constantLong "EngagedTone" (191 : Nat) (-9223372036854775808 : Int64)) ∈ ia_T := ia_in4 (List.mem_of_getElem? (i := 115) rfl) rfl
set_option maxRecDepth 100000 in
theorem iw_946 : (Jvm.Cond.methodLink "EngagedToneLaw" (66 : Nat) ({ cls := "EngagedTone", name := "buy", desc := "(III)I" } : Jvm.MethodName)) ∈ ia_T := ia_in4 (List.mem_of_getElem? (i := 116) rfl) rfl
set_option maxRecDepth 100000 in
theorem iw_947 : (Jvm.Cond.instanceMethod ({ cls := "EngagedTone", name := "buy", desc := "(III)I" } : Jvm.MethodName)) ∈ ia_T := ia_in4 (List.mem_of_getElem? (i := 117) rfl) rfl
set_option maxRecDepth 100000 in
theorem iw_948 : (Jvm.Cond.selects "EngagedTone" ({ cls := "EngagedTone", name := "buy", desc := "(III)I" } : Jvm.MethodName) ({ cls := "EngagedTone", name := "buy", desc := "(III)I" } : Jvm.MethodName)) ∈ ia_T := ia_in4 (List.mem_of_getElem? (i := 118) rfl) rfl
set_option maxRecDepth 100000 in
theorem iw_949 : (Jvm.Cond.code ({ cls := "EngagedTone", name := "buy", desc := "(III)I" } : Jvm.MethodName) prog_1_method_12_code (4 : Nat) (Option.some Jvm.ClassFile.FieldType.int)) ∈ ia_T := ia_in4 (List.mem_of_getElem? (i := 119) rfl) rfl
set_option maxRecDepth 100000 in
theorem iw_950 : (Jvm.Cond.methodLink "EngagedTone" (199 : Nat) ({ cls := "EngagedTone$Deeds", name := "add", desc := "(III)V" } : Jvm.MethodName)) ∈ ia_T := ia_in4 (List.mem_of_getElem? (i := 120) rfl) rfl
set_option maxRecDepth 100000 in
theorem iw_951 : (Jvm.Cond.instanceMethod ({ cls := "EngagedTone$Deeds", name := "add", desc := "(III)V" } : Jvm.MethodName)) ∈ ia_T := ia_in4 (List.mem_of_getElem? (i := 121) rfl) rfl
set_option maxRecDepth 100000 in
theorem iw_952 : (Jvm.Cond.selects "EngagedTone$Deeds" ({ cls := "EngagedTone$Deeds", name := "add", desc := "(III)V" } : Jvm.MethodName) ({ cls := "EngagedTone$Deeds", name := "add", desc := "(III)V" } : Jvm.MethodName)) ∈ ia_T := ia_in4 (List.mem_of_getElem? (i := 122) rfl) rfl
set_option maxRecDepth 100000 in
theorem iw_953 : (Jvm.Cond.code ({ cls := "EngagedTone$Deeds", name := "add", desc := "(III)V" } : Jvm.MethodName) prog_2_method_3_code (4 : Nat) (Option.none : Option Jvm.ClassFile.FieldType)) ∈ ia_T := ia_in4 (List.mem_of_getElem? (i := 123) rfl) rfl
set_option maxRecDepth 100000 in
theorem iw_954 : (Jvm.Cond.methodLink "EngagedTone$Deeds" (25 : Nat) ({ cls := "EngagedTone$Deeds", name := "dropFirst", desc := "()V" } : Jvm.MethodName)) ∈ ia_T := ia_in4 (List.mem_of_getElem? (i := 124) rfl) rfl
set_option maxRecDepth 100000 in
theorem iw_956 : (Jvm.Cond.instanceMethod ({ cls := "EngagedTone$Deeds", name := "dropFirst", desc := "()V" } : Jvm.MethodName)) ∈ ia_T := ia_in4 (List.mem_of_getElem? (i := 126) rfl) rfl
set_option maxRecDepth 100000 in
theorem iw_957 : (Jvm.Cond.code ({ cls := "EngagedTone$Deeds", name := "dropFirst", desc := "()V" } : Jvm.MethodName) prog_2_method_4_code (2 : Nat) (Option.none : Option Jvm.ClassFile.FieldType)) ∈ ia_T := ia_in4 (List.mem_of_getElem? (i := 127) rfl) rfl
set_option maxRecDepth 100000 in
theorem iw_958 : (Jvm.Cond.methodLink "EngagedTone" (203 : Nat) ({ cls := "EngagedTone$World", name := "addTone", desc := "(III)V" } : Jvm.MethodName)) ∈ ia_T := ia_in4 (List.mem_of_getElem? (i := 128) rfl) rfl
set_option maxRecDepth 100000 in
theorem iw_959 : (Jvm.Cond.methodLink "EngagedToneLaw" (71 : Nat) ({ cls := "EngagedTone", name := "put", desc := "(II)Z" } : Jvm.MethodName)) ∈ ia_T := ia_in4 (List.mem_of_getElem? (i := 129) rfl) rfl
set_option maxRecDepth 100000 in
theorem iw_960 : (Jvm.Cond.instanceMethod ({ cls := "EngagedTone", name := "put", desc := "(II)Z" } : Jvm.MethodName)) ∈ ia_T := ia_in4 (List.mem_of_getElem? (i := 130) rfl) rfl
set_option maxRecDepth 100000 in
theorem iw_961 : (Jvm.Cond.selects "EngagedTone" ({ cls := "EngagedTone", name := "put", desc := "(II)Z" } : Jvm.MethodName) ({ cls := "EngagedTone", name := "put", desc := "(II)Z" } : Jvm.MethodName)) ∈ ia_T := ia_in4 (List.mem_of_getElem? (i := 131) rfl) rfl
set_option maxRecDepth 100000 in
theorem iw_962 : (Jvm.Cond.code ({ cls := "EngagedTone", name := "put", desc := "(II)Z" } : Jvm.MethodName) prog_1_method_13_code (3 : Nat) (Option.some Jvm.ClassFile.FieldType.boolean)) ∈ ia_T := ia_in4 (List.mem_of_getElem? (i := 132) rfl) rfl
set_option maxRecDepth 100000 in
theorem iw_963 : (Jvm.Cond.methodLink "EngagedTone" (206 : Nat) ({ cls := "EngagedTone", name := "isWaiting", desc := "(I)Z" } : Jvm.MethodName)) ∈ ia_T := ia_in4 (List.mem_of_getElem? (i := 133) rfl) rfl
set_option maxRecDepth 100000 in
theorem iw_965 : (Jvm.Cond.instanceMethod ({ cls := "EngagedTone", name := "isWaiting", desc := "(I)Z" } : Jvm.MethodName)) ∈ ia_T := ia_in4 (List.mem_of_getElem? (i := 135) rfl) rfl
set_option maxRecDepth 100000 in
theorem iw_966 : (Jvm.Cond.code ({ cls := "EngagedTone", name := "isWaiting", desc := "(I)Z" } : Jvm.MethodName) prog_1_method_49_code (2 : Nat) (Option.some Jvm.ClassFile.FieldType.boolean)) ∈ ia_T := ia_in4 (List.mem_of_getElem? (i := 136) rfl) rfl
set_option maxRecDepth 100000 in
theorem iw_967 : (Jvm.Cond.methodLink "EngagedToneLaw" (76 : Nat) ({ cls := "EngagedTone", name := "hang", desc := "(I)I" } : Jvm.MethodName)) ∈ ia_T := ia_in4 (List.mem_of_getElem? (i := 137) rfl) rfl
set_option maxRecDepth 100000 in
theorem iw_968 : (Jvm.Cond.instanceMethod ({ cls := "EngagedTone", name := "hang", desc := "(I)I" } : Jvm.MethodName)) ∈ ia_T := ia_in4 (List.mem_of_getElem? (i := 138) rfl) rfl
set_option maxRecDepth 100000 in
theorem iw_969 : (Jvm.Cond.selects "EngagedTone" ({ cls := "EngagedTone", name := "hang", desc := "(I)I" } : Jvm.MethodName) ({ cls := "EngagedTone", name := "hang", desc := "(I)I" } : Jvm.MethodName)) ∈ ia_T := ia_in4 (List.mem_of_getElem? (i := 139) rfl) rfl
set_option maxRecDepth 100000 in
theorem iw_970 : (Jvm.Cond.code ({ cls := "EngagedTone", name := "hang", desc := "(I)I" } : Jvm.MethodName) prog_1_method_14_code (2 : Nat) (Option.some Jvm.ClassFile.FieldType.int)) ∈ ia_T := ia_in4 (List.mem_of_getElem? (i := 140) rfl) rfl
set_option maxRecDepth 100000 in
theorem iw_971 : (Jvm.Cond.methodLink "EngagedToneLaw" (80 : Nat) ({ cls := "EngagedTone", name := "lend", desc := "(II)I" } : Jvm.MethodName)) ∈ ia_T := ia_in4 (List.mem_of_getElem? (i := 141) rfl) rfl
set_option maxRecDepth 100000 in
theorem iw_972 : (Jvm.Cond.instanceMethod ({ cls := "EngagedTone", name := "lend", desc := "(II)I" } : Jvm.MethodName)) ∈ ia_T := ia_in4 (List.mem_of_getElem? (i := 142) rfl) rfl
set_option maxRecDepth 100000 in
theorem iw_973 : (Jvm.Cond.selects "EngagedTone" ({ cls := "EngagedTone", name := "lend", desc := "(II)I" } : Jvm.MethodName) ({ cls := "EngagedTone", name := "lend", desc := "(II)I" } : Jvm.MethodName)) ∈ ia_T := ia_in4 (List.mem_of_getElem? (i := 143) rfl) rfl
set_option maxRecDepth 100000 in
theorem iw_974 : (Jvm.Cond.code ({ cls := "EngagedTone", name := "lend", desc := "(II)I" } : Jvm.MethodName) prog_1_method_15_code (3 : Nat) (Option.some Jvm.ClassFile.FieldType.int)) ∈ ia_T := ia_in4 (List.mem_of_getElem? (i := 144) rfl) rfl
set_option maxRecDepth 100000 in
theorem iw_975 : (Jvm.Cond.methodLink "EngagedToneLaw" (84 : Nat) ({ cls := "EngagedTone", name := "go", desc := "(I)I" } : Jvm.MethodName)) ∈ ia_T := ia_in4 (List.mem_of_getElem? (i := 145) rfl) rfl
set_option maxRecDepth 100000 in
theorem iw_976 : (Jvm.Cond.instanceMethod ({ cls := "EngagedTone", name := "go", desc := "(I)I" } : Jvm.MethodName)) ∈ ia_T := ia_in4 (List.mem_of_getElem? (i := 146) rfl) rfl
set_option maxRecDepth 100000 in
theorem iw_977 : (Jvm.Cond.selects "EngagedTone" ({ cls := "EngagedTone", name := "go", desc := "(I)I" } : Jvm.MethodName) ({ cls := "EngagedTone", name := "go", desc := "(I)I" } : Jvm.MethodName)) ∈ ia_T := ia_in4 (List.mem_of_getElem? (i := 147) rfl) rfl
set_option maxRecDepth 100000 in
theorem iw_978 : (Jvm.Cond.code ({ cls := "EngagedTone", name := "go", desc := "(I)I" } : Jvm.MethodName) prog_1_method_16_code (3 : Nat) (Option.some Jvm.ClassFile.FieldType.int)) ∈ ia_T := ia_in4 (List.mem_of_getElem? (i := 148) rfl) rfl
set_option maxRecDepth 100000 in
theorem iw_979 : (Jvm.Cond.methodLink "EngagedTone" (209 : Nat) ({ cls := "EngagedTone$Exchange", name := "step", desc := "(LEngagedTone$World;)V" } : Jvm.MethodName)) ∈ ia_T := ia_in4 (List.mem_of_getElem? (i := 149) rfl) rfl
set_option maxRecDepth 100000 in
theorem iw_980 : (Jvm.Cond.instanceMethod ({ cls := "EngagedTone$Exchange", name := "step", desc := "(LEngagedTone$World;)V" } : Jvm.MethodName)) ∈ ia_T := ia_in4 (List.mem_of_getElem? (i := 150) rfl) rfl
set_option maxRecDepth 100000 in
theorem iw_981 : (Jvm.Cond.selects "EngagedTone$Exchange" ({ cls := "EngagedTone$Exchange", name := "step", desc := "(LEngagedTone$World;)V" } : Jvm.MethodName) ({ cls := "EngagedTone$Exchange", name := "step", desc := "(LEngagedTone$World;)V" } : Jvm.MethodName)) ∈ ia_T := ia_in4 (List.mem_of_getElem? (i := 151) rfl) rfl
set_option maxRecDepth 100000 in
theorem iw_982 : (Jvm.Cond.code ({ cls := "EngagedTone$Exchange", name := "step", desc := "(LEngagedTone$World;)V" } : Jvm.MethodName) prog_3_method_3_code (4 : Nat) (Option.none : Option Jvm.ClassFile.FieldType)) ∈ ia_T := ia_in4 (List.mem_of_getElem? (i := 152) rfl) rfl
set_option maxRecDepth 100000 in
theorem iw_983 : (Jvm.Cond.methodLink "EngagedTone$Exchange" (46 : Nat) ({ cls := "EngagedTone$World", name := "endCalls", desc := "()V" } : Jvm.MethodName)) ∈ ia_T := ia_in4 (List.mem_of_getElem? (i := 153) rfl) rfl
set_option maxRecDepth 100000 in
theorem iw_984 : (Jvm.Cond.instanceMethod ({ cls := "EngagedTone$World", name := "endCalls", desc := "()V" } : Jvm.MethodName)) ∈ ia_T := ia_in4 (List.mem_of_getElem? (i := 154) rfl) rfl
set_option maxRecDepth 100000 in
theorem iw_985 : (Jvm.Cond.selects "EngagedTone$World" ({ cls := "EngagedTone$World", name := "endCalls", desc := "()V" } : Jvm.MethodName) ({ cls := "EngagedTone$World", name := "endCalls", desc := "()V" } : Jvm.MethodName)) ∈ ia_T := ia_in4 (List.mem_of_getElem? (i := 155) rfl) rfl
set_option maxRecDepth 100000 in
theorem iw_986 : (Jvm.Cond.code ({ cls := "EngagedTone$World", name := "endCalls", desc := "()V" } : Jvm.MethodName) prog_10_method_19_code (2 : Nat) (Option.none : Option Jvm.ClassFile.FieldType)) ∈ ia_T := ia_in4 (List.mem_of_getElem? (i := 156) rfl) rfl
set_option maxRecDepth 100000 in
theorem iw_987 : (Jvm.Cond.methodLink "EngagedTone$Exchange" (51 : Nat) ({ cls := "EngagedTone$World", name := "endTones", desc := "()V" } : Jvm.MethodName)) ∈ ia_T := ia_in4 (List.mem_of_getElem? (i := 157) rfl) rfl
set_option maxRecDepth 100000 in
theorem iw_988 : (Jvm.Cond.instanceMethod ({ cls := "EngagedTone$World", name := "endTones", desc := "()V" } : Jvm.MethodName)) ∈ ia_T := ia_in4 (List.mem_of_getElem? (i := 158) rfl) rfl
set_option maxRecDepth 100000 in
theorem iw_989 : (Jvm.Cond.selects "EngagedTone$World" ({ cls := "EngagedTone$World", name := "endTones", desc := "()V" } : Jvm.MethodName) ({ cls := "EngagedTone$World", name := "endTones", desc := "()V" } : Jvm.MethodName)) ∈ ia_T := ia_in4 (List.mem_of_getElem? (i := 159) rfl) rfl
set_option maxRecDepth 100000 in
theorem iw_990 : (Jvm.Cond.code ({ cls := "EngagedTone$World", name := "endTones", desc := "()V" } : Jvm.MethodName) prog_10_method_20_code (2 : Nat) (Option.none : Option Jvm.ClassFile.FieldType)) ∈ ia_T := ia_in4 (List.mem_of_getElem? (i := 160) rfl) rfl
set_option maxRecDepth 100000 in
theorem iw_991 : (Jvm.Cond.methodLink "EngagedTone$Exchange" (67 : Nat) ({ cls := "EngagedTone$Exchange", name := "beginTone", desc := "(LEngagedTone$World;I)V" } : Jvm.MethodName)) ∈ ia_T := ia_in4 (List.mem_of_getElem? (i := 161) rfl) rfl
set_option maxRecDepth 100000 in
theorem iw_993 : (Jvm.Cond.instanceMethod ({ cls := "EngagedTone$Exchange", name := "beginTone", desc := "(LEngagedTone$World;I)V" } : Jvm.MethodName)) ∈ ia_T := ia_in4 (List.mem_of_getElem? (i := 163) rfl) rfl
set_option maxRecDepth 100000 in
theorem iw_994 : (Jvm.Cond.code ({ cls := "EngagedTone$Exchange", name := "beginTone", desc := "(LEngagedTone$World;I)V" } : Jvm.MethodName) prog_3_method_4_code (7 : Nat) (Option.none : Option Jvm.ClassFile.FieldType)) ∈ ia_T := ia_in4 (List.mem_of_getElem? (i := 164) rfl) rfl
set_option maxRecDepth 100000 in
theorem iw_995 : (Jvm.Cond.methodLink "EngagedTone$Exchange" (101 : Nat) ({ cls := "EngagedTone$Exchange", name := "valueOf", desc := "(LEngagedTone$World;III)J" } : Jvm.MethodName)) ∈ ia_T := ia_in4 (List.mem_of_getElem? (i := 165) rfl) rfl
set_option maxRecDepth 100000 in
theorem iw_996 : (Jvm.Cond.methodLink "EngagedTone$Exchange" (114 : Nat) ({ cls := "java/lang/Math", name := "min", desc := "(II)I" } : Jvm.MethodName)) ∈ ia_T := ia_in4 (List.mem_of_getElem? (i := 166) rfl) rfl
set_option maxRecDepth 100000 in
theorem iw_997 : (Jvm.Cond.constantLong "EngagedTone$Exchange" (120 : Nat) (999 : Int64)) ∈ ia_T := ia_in4 (List.mem_of_getElem? (i := 167) rfl) rfl
set_option maxRecDepth 100000 in
theorem iw_998 : (Jvm.Cond.methodLink "EngagedTone$Exchange" (122 : Nat) ({ cls := "java/lang/Math", name := "min", desc := "(JJ)J" } : Jvm.MethodName)) ∈ ia_T := ia_in4 (List.mem_of_getElem? (i := 168) rfl) rfl
set_option maxRecDepth 100000 in
theorem iw_999 : (Jvm.Cond.static ({ cls := "java/lang/Math", name := "min", desc := "(JJ)J" } : Jvm.MethodName)) ∈ ia_T := ia_in4 (List.mem_of_getElem? (i := 169) rfl) rfl

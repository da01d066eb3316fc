/-! The words, by their places (by program). -/
set_option maxRecDepth 100000 in
theorem iw_1573 : (Jvm.Cond.methodLink "EngagedToneLaw" (45 : Nat) ({ cls := "EngagedToneModel", name := "thrown", desc := "()I" } : Jvm.MethodName)) ∈ ia_T := ia_in7 (List.mem_of_getElem? (i := 23) rfl) rfl
set_option maxRecDepth 100000 in
theorem iw_1574 : (Jvm.Cond.instanceMethod ({ cls := "EngagedToneModel", name := "thrown", desc := "()I" } : Jvm.MethodName)) ∈ ia_T := ia_in7 (List.mem_of_getElem? (i := 24) rfl) rfl
set_option maxRecDepth 100000 in
theorem iw_1575 : (Jvm.Cond.selects "EngagedToneModel" ({ cls := "EngagedToneModel", name := "thrown", desc := "()I" } : Jvm.MethodName) ({ cls := "EngagedToneModel", name := "thrown", desc := "()I" } : Jvm.MethodName)) ∈ ia_T := ia_in7 (List.mem_of_getElem? (i := 25) rfl) rfl
set_option maxRecDepth 100000 in
theorem iw_1576 : (Jvm.Cond.code ({ cls := "EngagedToneModel", name := "thrown", desc := "()I" } : Jvm.MethodName) prog_12_method_2_code (1 : Nat) (Option.some Jvm.ClassFile.FieldType.int)) ∈ ia_T := ia_in7 (List.mem_of_getElem? (i := 26) rfl) rfl
set_option maxRecDepth 100000 in
theorem iw_1577 : (Jvm.Cond.methodLink "EngagedToneLaw" (25 : Nat) ({ cls := "EngagedToneModel", name := "feed", desc := "(IIIII)I" } : Jvm.MethodName)) ∈ ia_T := ia_in7 (List.mem_of_getElem? (i := 27) rfl) rfl
set_option maxRecDepth 100000 in
theorem iw_1578 : (Jvm.Cond.instanceMethod ({ cls := "EngagedToneModel", name := "feed", desc := "(IIIII)I" } : Jvm.MethodName)) ∈ ia_T := ia_in7 (List.mem_of_getElem? (i := 28) rfl) rfl
set_option maxRecDepth 100000 in
theorem iw_1579 : (Jvm.Cond.selects "EngagedToneModel" ({ cls := "EngagedToneModel", name := "feed", desc := "(IIIII)I" } : Jvm.MethodName) ({ cls := "EngagedToneModel", name := "feed", desc := "(IIIII)I" } : Jvm.MethodName)) ∈ ia_T := ia_in7 (List.mem_of_getElem? (i := 29) rfl) rfl
set_option maxRecDepth 100000 in
theorem iw_1580 : (Jvm.Cond.code ({ cls := "EngagedToneModel", name := "feed", desc := "(IIIII)I" } : Jvm.MethodName) prog_12_method_3_code (8 : Nat) (Option.some Jvm.ClassFile.FieldType.int)) ∈ ia_T := ia_in7 (List.mem_of_getElem? (i := 30) rfl) rfl
set_option maxRecDepth 100000 in
theorem iw_1581 : (Jvm.Cond.methodLink "EngagedToneLaw" (30 : Nat) ({ cls := "EngagedToneModel", name := "text", desc := "(I)I" } : Jvm.MethodName)) ∈ ia_T := ia_in7 (List.mem_of_getElem? (i := 31) rfl) rfl
set_option maxRecDepth 100000 in
theorem iw_1582 : (Jvm.Cond.instanceMethod ({ cls := "EngagedToneModel", name := "text", desc := "(I)I" } : Jvm.MethodName)) ∈ ia_T := ia_in7 (List.mem_of_getElem? (i := 32) rfl) rfl
set_option maxRecDepth 100000 in
theorem iw_1583 : (Jvm.Cond.selects "EngagedToneModel" ({ cls := "EngagedToneModel", name := "text", desc := "(I)I" } : Jvm.MethodName) ({ cls := "EngagedToneModel", name := "text", desc := "(I)I" } : Jvm.MethodName)) ∈ ia_T := ia_in7 (List.mem_of_getElem? (i := 33) rfl) rfl
set_option maxRecDepth 100000 in
theorem iw_1584 : (Jvm.Cond.code ({ cls := "EngagedToneModel", name := "text", desc := "(I)I" } : Jvm.MethodName) prog_12_method_35_code (3 : Nat) (Option.some Jvm.ClassFile.FieldType.int)) ∈ ia_T := ia_in7 (List.mem_of_getElem? (i := 34) rfl) rfl
set_option maxRecDepth 100000 in
theorem iw_1585 : (Jvm.Cond.methodLink "EngagedToneModel" (245 : Nat) ({ cls := "EngagedToneModel", name := "reads", desc := "(II)V" } : Jvm.MethodName)) ∈ ia_T := ia_in7 (List.mem_of_getElem? (i := 35) rfl) rfl
set_option maxRecDepth 100000 in
theorem iw_1587 : (Jvm.Cond.instanceMethod ({ cls := "EngagedToneModel", name := "reads", desc := "(II)V" } : Jvm.MethodName)) ∈ ia_T := ia_in7 (List.mem_of_getElem? (i := 37) rfl) rfl
set_option maxRecDepth 100000 in
theorem iw_1588 : (Jvm.Cond.code ({ cls := "EngagedToneModel", name := "reads", desc := "(II)V" } : Jvm.MethodName) prog_12_method_19_code (3 : Nat) (Option.none : Option Jvm.ClassFile.FieldType)) ∈ ia_T := ia_in7 (List.mem_of_getElem? (i := 38) rfl) rfl
set_option maxRecDepth 100000 in
theorem iw_1589 : (Jvm.Cond.methodLink "EngagedToneModel" (211 : Nat) ({ cls := "EngagedToneModel", name := "token", desc := "()V" } : Jvm.MethodName)) ∈ ia_T := ia_in7 (List.mem_of_getElem? (i := 39) rfl) rfl
set_option maxRecDepth 100000 in
theorem iw_1591 : (Jvm.Cond.instanceMethod ({ cls := "EngagedToneModel", name := "token", desc := "()V" } : Jvm.MethodName)) ∈ ia_T := ia_in7 (List.mem_of_getElem? (i := 41) rfl) rfl
set_option maxRecDepth 100000 in
theorem iw_1592 : (Jvm.Cond.code ({ cls := "EngagedToneModel", name := "token", desc := "()V" } : Jvm.MethodName) prog_12_method_7_code (2 : Nat) (Option.none : Option Jvm.ClassFile.FieldType)) ∈ ia_T := ia_in7 (List.mem_of_getElem? (i := 42) rfl) rfl
set_option maxRecDepth 100000 in
theorem iw_1593 : (Jvm.Cond.methodLink "EngagedToneModel" (163 : Nat) ({ cls := "EngagedToneModel", name := "here", desc := "()I" } : Jvm.MethodName)) ∈ ia_T := ia_in7 (List.mem_of_getElem? (i := 43) rfl) rfl
set_option maxRecDepth 100000 in
theorem iw_1595 : (Jvm.Cond.instanceMethod ({ cls := "EngagedToneModel", name := "here", desc := "()I" } : Jvm.MethodName)) ∈ ia_T := ia_in7 (List.mem_of_getElem? (i := 45) rfl) rfl
set_option maxRecDepth 100000 in
theorem iw_1596 : (Jvm.Cond.code ({ cls := "EngagedToneModel", name := "here", desc := "()I" } : Jvm.MethodName) prog_12_method_4_code (1 : Nat) (Option.some Jvm.ClassFile.FieldType.int)) ∈ ia_T := ia_in7 (List.mem_of_getElem? (i := 46) rfl) rfl
set_option maxRecDepth 100000 in
theorem iw_1597 : (Jvm.Cond.methodLink "EngagedToneModel" (173 : Nat) ({ cls := "EngagedToneModel", name := "isSmall", desc := "(I)Z" } : Jvm.MethodName)) ∈ ia_T := ia_in7 (List.mem_of_getElem? (i := 47) rfl) rfl
set_option maxRecDepth 100000 in
theorem iw_1598 : (Jvm.Cond.static ({ cls := "EngagedToneModel", name := "isSmall", desc := "(I)Z" } : Jvm.MethodName)) ∈ ia_T := ia_in7 (List.mem_of_getElem? (i := 48) rfl) rfl
set_option maxRecDepth 100000 in
theorem iw_1599 : (Jvm.Cond.code ({ cls := "EngagedToneModel", name := "isSmall", desc := "(I)Z" } : Jvm.MethodName) prog_12_method_5_code (1 : Nat) (Option.some Jvm.ClassFile.FieldType.boolean)) ∈ ia_T := ia_in7 (List.mem_of_getElem? (i := 49) rfl) rfl
set_option maxRecDepth 100000 in
theorem iw_1600 : (Jvm.Cond.methodLink "EngagedToneModel" (177 : Nat) ({ cls := "EngagedToneModel", name := "word", desc := "()I" } : Jvm.MethodName)) ∈ ia_T := ia_in7 (List.mem_of_getElem? (i := 50) rfl) rfl
set_option maxRecDepth 100000 in
theorem iw_1602 : (Jvm.Cond.instanceMethod ({ cls := "EngagedToneModel", name := "word", desc := "()I" } : Jvm.MethodName)) ∈ ia_T := ia_in7 (List.mem_of_getElem? (i := 52) rfl) rfl
set_option maxRecDepth 100000 in
theorem iw_1603 : (Jvm.Cond.code ({ cls := "EngagedToneModel", name := "word", desc := "()I" } : Jvm.MethodName) prog_12_method_9_code (4 : Nat) (Option.some Jvm.ClassFile.FieldType.int)) ∈ ia_T := ia_in7 (List.mem_of_getElem? (i := 53) rfl) rfl
set_option maxRecDepth 100000 in
theorem iw_1605 : (Jvm.Cond.methodLink "EngagedToneModel" (196 : Nat) ({ cls := "java/lang/String", name := "length", desc := "()I" } : Jvm.MethodName)) ∈ ia_T := ia_in7 (List.mem_of_getElem? (i := 55) rfl) rfl
set_option maxRecDepth 100000 in
theorem iw_1606 : (Jvm.Cond.methodLink "EngagedToneModel" (201 : Nat) ({ cls := "java/lang/String", name := "charAt", desc := "(I)C" } : Jvm.MethodName)) ∈ ia_T := ia_in7 (List.mem_of_getElem? (i := 56) rfl) rfl
set_option maxRecDepth 100000 in
theorem iw_1607 : (Jvm.Cond.methodLink "EngagedToneModel" (183 : Nat) ({ cls := "EngagedToneModel", name := "name", desc := "()V" } : Jvm.MethodName)) ∈ ia_T := ia_in7 (List.mem_of_getElem? (i := 57) rfl) rfl
set_option maxRecDepth 100000 in
theorem iw_1609 : (Jvm.Cond.instanceMethod ({ cls := "EngagedToneModel", name := "name", desc := "()V" } : Jvm.MethodName)) ∈ ia_T := ia_in7 (List.mem_of_getElem? (i := 59) rfl) rfl
set_option maxRecDepth 100000 in
theorem iw_1610 : (Jvm.Cond.code ({ cls := "EngagedToneModel", name := "name", desc := "()V" } : Jvm.MethodName) prog_12_method_10_code (2 : Nat) (Option.none : Option Jvm.ClassFile.FieldType)) ∈ ia_T := ia_in7 (List.mem_of_getElem? (i := 60) rfl) rfl
set_option maxRecDepth 100000 in
theorem iw_1611 : (Jvm.Cond.methodLink "EngagedToneModel" (186 : Nat) ({ cls := "EngagedToneModel", name := "isDigit", desc := "(I)Z" } : Jvm.MethodName)) ∈ ia_T := ia_in7 (List.mem_of_getElem? (i := 61) rfl) rfl
set_option maxRecDepth 100000 in
theorem iw_1612 : (Jvm.Cond.static ({ cls := "EngagedToneModel", name := "isDigit", desc := "(I)Z" } : Jvm.MethodName)) ∈ ia_T := ia_in7 (List.mem_of_getElem? (i := 62) rfl) rfl
set_option maxRecDepth 100000 in
theorem iw_1613 : (Jvm.Cond.code ({ cls := "EngagedToneModel", name := "isDigit", desc := "(I)Z" } : Jvm.MethodName) prog_12_method_6_code (1 : Nat) (Option.some Jvm.ClassFile.FieldType.boolean)) ∈ ia_T := ia_in7 (List.mem_of_getElem? (i := 63) rfl) rfl
set_option maxRecDepth 100000 in
theorem iw_1614 : (Jvm.Cond.constant "EngagedToneModel" (189 : Nat) (99999 : Int32)) ∈ ia_T := ia_in7 (List.mem_of_getElem? (i := 64) rfl) rfl
set_option maxRecDepth 100000 in
theorem iw_1615 : (Jvm.Cond.methodLink "EngagedToneModel" (190 : Nat) ({ cls := "EngagedToneModel", name := "sign", desc := "(I)V" } : Jvm.MethodName)) ∈ ia_T := ia_in7 (List.mem_of_getElem? (i := 65) rfl) rfl
set_option maxRecDepth 100000 in
theorem iw_1617 : (Jvm.Cond.instanceMethod ({ cls := "EngagedToneModel", name := "sign", desc := "(I)V" } : Jvm.MethodName)) ∈ ia_T := ia_in7 (List.mem_of_getElem? (i := 67) rfl) rfl
set_option maxRecDepth 100000 in
theorem iw_1618 : (Jvm.Cond.code ({ cls := "EngagedToneModel", name := "sign", desc := "(I)V" } : Jvm.MethodName) prog_12_method_8_code (2 : Nat) (Option.none : Option Jvm.ClassFile.FieldType)) ∈ ia_T := ia_in7 (List.mem_of_getElem? (i := 68) rfl) rfl
set_option maxRecDepth 100000 in
theorem iw_1619 : (Jvm.Cond.methodLink "EngagedToneModel" (297 : Nat) ({ cls := "EngagedToneModel", name := "line", desc := "()V" } : Jvm.MethodName)) ∈ ia_T := ia_in7 (List.mem_of_getElem? (i := 69) rfl) rfl
set_option maxRecDepth 100000 in
theorem iw_1621 : (Jvm.Cond.instanceMethod ({ cls := "EngagedToneModel", name := "line", desc := "()V" } : Jvm.MethodName)) ∈ ia_T := ia_in7 (List.mem_of_getElem? (i := 71) rfl) rfl
set_option maxRecDepth 100000 in
theorem iw_1622 : (Jvm.Cond.code ({ cls := "EngagedToneModel", name := "line", desc := "()V" } : Jvm.MethodName) prog_12_method_23_code (5 : Nat) (Option.none : Option Jvm.ClassFile.FieldType)) ∈ ia_T := ia_in7 (List.mem_of_getElem? (i := 72) rfl) rfl
set_option maxRecDepth 100000 in
theorem iw_1623 : (Jvm.Cond.methodLink "EngagedToneModel" (214 : Nat) ({ cls := "EngagedToneModel", name := "wrong", desc := "(I)V" } : Jvm.MethodName)) ∈ ia_T := ia_in7 (List.mem_of_getElem? (i := 73) rfl) rfl
set_option maxRecDepth 100000 in
theorem iw_1625 : (Jvm.Cond.instanceMethod ({ cls := "EngagedToneModel", name := "wrong", desc := "(I)V" } : Jvm.MethodName)) ∈ ia_T := ia_in7 (List.mem_of_getElem? (i := 75) rfl) rfl
set_option maxRecDepth 100000 in
theorem iw_1626 : (Jvm.Cond.code ({ cls := "EngagedToneModel", name := "wrong", desc := "(I)V" } : Jvm.MethodName) prog_12_method_11_code (2 : Nat) (Option.none : Option Jvm.ClassFile.FieldType)) ∈ ia_T := ia_in7 (List.mem_of_getElem? (i := 76) rfl) rfl
set_option maxRecDepth 100000 in
theorem iw_1627 : (Jvm.Cond.methodLink "EngagedToneModel" (231 : Nat) ({ cls := "EngagedToneModel", name := "isFull", desc := "(I)Z" } : Jvm.MethodName)) ∈ ia_T := ia_in7 (List.mem_of_getElem? (i := 77) rfl) rfl
set_option maxRecDepth 100000 in
theorem iw_1629 : (Jvm.Cond.instanceMethod ({ cls := "EngagedToneModel", name := "isFull", desc := "(I)Z" } : Jvm.MethodName)) ∈ ia_T := ia_in7 (List.mem_of_getElem? (i := 79) rfl) rfl
set_option maxRecDepth 100000 in
theorem iw_1630 : (Jvm.Cond.code ({ cls := "EngagedToneModel", name := "isFull", desc := "(I)Z" } : Jvm.MethodName) prog_12_method_22_code (2 : Nat) (Option.some Jvm.ClassFile.FieldType.boolean)) ∈ ia_T := ia_in7 (List.mem_of_getElem? (i := 80) rfl) rfl
set_option maxRecDepth 100000 in
theorem iw_1631 : (Jvm.Cond.methodLink "EngagedToneModel" (221 : Nat) ({ cls := "EngagedToneModel", name := "fresher", desc := "(I)I" } : Jvm.MethodName)) ∈ ia_T := ia_in7 (List.mem_of_getElem? (i := 81) rfl) rfl
set_option maxRecDepth 100000 in
theorem iw_1633 : (Jvm.Cond.instanceMethod ({ cls := "EngagedToneModel", name := "fresher", desc := "(I)I" } : Jvm.MethodName)) ∈ ia_T := ia_in7 (List.mem_of_getElem? (i := 83) rfl) rfl
set_option maxRecDepth 100000 in
theorem iw_1634 : (Jvm.Cond.code ({ cls := "EngagedToneModel", name := "fresher", desc := "(I)I" } : Jvm.MethodName) prog_12_method_18_code (2 : Nat) (Option.some Jvm.ClassFile.FieldType.int)) ∈ ia_T := ia_in7 (List.mem_of_getElem? (i := 84) rfl) rfl
set_option maxRecDepth 100000 in
theorem iw_1635 : (Jvm.Cond.methodLink "EngagedToneModel" (237 : Nat) ({ cls := "EngagedToneModel", name := "fresh", desc := "([III)I" } : Jvm.MethodName)) ∈ ia_T := ia_in7 (List.mem_of_getElem? (i := 85) rfl) rfl
set_option maxRecDepth 100000 in
theorem iw_1637 : (Jvm.Cond.instanceMethod ({ cls := "EngagedToneModel", name := "fresh", desc := "([III)I" } : Jvm.MethodName)) ∈ ia_T := ia_in7 (List.mem_of_getElem? (i := 87) rfl) rfl
set_option maxRecDepth 100000 in
theorem iw_1638 : (Jvm.Cond.code ({ cls := "EngagedToneModel", name := "fresh", desc := "([III)I" } : Jvm.MethodName) prog_12_method_17_code (5 : Nat) (Option.some Jvm.ClassFile.FieldType.int)) ∈ ia_T := ia_in7 (List.mem_of_getElem? (i := 88) rfl) rfl
set_option maxRecDepth 100000 in
theorem iw_1639 : (Jvm.Cond.methodLink "EngagedToneModel" (217 : Nat) ({ cls := "EngagedToneModel", name := "found", desc := "([IIII)I" } : Jvm.MethodName)) ∈ ia_T := ia_in7 (List.mem_of_getElem? (i := 89) rfl) rfl
set_option maxRecDepth 100000 in
theorem iw_1640 : (Jvm.Cond.static ({ cls := "EngagedToneModel", name := "found", desc := "([IIII)I" } : Jvm.MethodName)) ∈ ia_T := ia_in7 (List.mem_of_getElem? (i := 90) rfl) rfl
set_option maxRecDepth 100000 in
theorem iw_1641 : (Jvm.Cond.code ({ cls := "EngagedToneModel", name := "found", desc := "([IIII)I" } : Jvm.MethodName) prog_12_method_16_code (5 : Nat) (Option.some Jvm.ClassFile.FieldType.int)) ∈ ia_T := ia_in7 (List.mem_of_getElem? (i := 91) rfl) rfl
set_option maxRecDepth 100000 in
theorem iw_1642 : (Jvm.Cond.methodLink "EngagedToneModel" (241 : Nat) ({ cls := "EngagedToneModel", name := "numeral", desc := "(II)I" } : Jvm.MethodName)) ∈ ia_T := ia_in7 (List.mem_of_getElem? (i := 92) rfl) rfl
set_option maxRecDepth 100000 in
theorem iw_1644 : (Jvm.Cond.instanceMethod ({ cls := "EngagedToneModel", name := "numeral", desc := "(II)I" } : Jvm.MethodName)) ∈ ia_T := ia_in7 (List.mem_of_getElem? (i := 94) rfl) rfl
set_option maxRecDepth 100000 in
theorem iw_1645 : (Jvm.Cond.code ({ cls := "EngagedToneModel", name := "numeral", desc := "(II)I" } : Jvm.MethodName) prog_12_method_15_code (4 : Nat) (Option.some Jvm.ClassFile.FieldType.int)) ∈ ia_T := ia_in7 (List.mem_of_getElem? (i := 95) rfl) rfl
set_option maxRecDepth 100000 in
theorem iw_1646 : (Jvm.Cond.methodLink "EngagedToneModel" (249 : Nat) ({ cls := "EngagedToneModel", name := "manAhead", desc := "()I" } : Jvm.MethodName)) ∈ ia_T := ia_in7 (List.mem_of_getElem? (i := 96) rfl) rfl
set_option maxRecDepth 100000 in
theorem iw_1648 : (Jvm.Cond.instanceMethod ({ cls := "EngagedToneModel", name := "manAhead", desc := "()I" } : Jvm.MethodName)) ∈ ia_T := ia_in7 (List.mem_of_getElem? (i := 98) rfl) rfl
set_option maxRecDepth 100000 in
theorem iw_1649 : (Jvm.Cond.code ({ cls := "EngagedToneModel", name := "manAhead", desc := "()I" } : Jvm.MethodName) prog_12_method_21_code (2 : Nat) (Option.some Jvm.ClassFile.FieldType.int)) ∈ ia_T := ia_in7 (List.mem_of_getElem? (i := 99) rfl) rfl
set_option maxRecDepth 100000 in
theorem iw_1650 : (Jvm.Cond.methodLink "EngagedToneModel" (225 : Nat) ({ cls := "EngagedToneModel", name := "manAtHand", desc := "()I" } : Jvm.MethodName)) ∈ ia_T := ia_in7 (List.mem_of_getElem? (i := 100) rfl) rfl
set_option maxRecDepth 100000 in
theorem iw_1652 : (Jvm.Cond.instanceMethod ({ cls := "EngagedToneModel", name := "manAtHand", desc := "()I" } : Jvm.MethodName)) ∈ ia_T := ia_in7 (List.mem_of_getElem? (i := 102) rfl) rfl
set_option maxRecDepth 100000 in
theorem iw_1653 : (Jvm.Cond.code ({ cls := "EngagedToneModel", name := "manAtHand", desc := "()I" } : Jvm.MethodName) prog_12_method_20_code (1 : Nat) (Option.some Jvm.ClassFile.FieldType.int)) ∈ ia_T := ia_in7 (List.mem_of_getElem? (i := 103) rfl) rfl
set_option maxRecDepth 100000 in
theorem iw_1654 : (Jvm.Cond.methodLink "EngagedToneModel" (228 : Nat) ({ cls := "EngagedToneModel", name := "goOn", desc := "()V" } : Jvm.MethodName)) ∈ ia_T := ia_in7 (List.mem_of_getElem? (i := 104) rfl) rfl
set_option maxRecDepth 100000 in
theorem iw_1656 : (Jvm.Cond.instanceMethod ({ cls := "EngagedToneModel", name := "goOn", desc := "()V" } : Jvm.MethodName)) ∈ ia_T := ia_in7 (List.mem_of_getElem? (i := 106) rfl) rfl
set_option maxRecDepth 100000 in
theorem iw_1657 : (Jvm.Cond.code ({ cls := "EngagedToneModel", name := "goOn", desc := "()V" } : Jvm.MethodName) prog_12_method_14_code (1 : Nat) (Option.none : Option Jvm.ClassFile.FieldType)) ∈ ia_T := ia_in7 (List.mem_of_getElem? (i := 107) rfl) rfl
set_option maxRecDepth 100000 in
theorem iw_1658 : (Jvm.Cond.methodLink "EngagedToneModel" (252 : Nat) ({ cls := "EngagedToneModel", name := "ringLine", desc := "(I)V" } : Jvm.MethodName)) ∈ ia_T := ia_in7 (List.mem_of_getElem? (i := 108) rfl) rfl
set_option maxRecDepth 100000 in
theorem iw_1660 : (Jvm.Cond.instanceMethod ({ cls := "EngagedToneModel", name := "ringLine", desc := "(I)V" } : Jvm.MethodName)) ∈ ia_T := ia_in7 (List.mem_of_getElem? (i := 110) rfl) rfl
set_option maxRecDepth 100000 in
theorem iw_1661 : (Jvm.Cond.code ({ cls := "EngagedToneModel", name := "ringLine", desc := "(I)V" } : Jvm.MethodName) prog_12_method_24_code (2 : Nat) (Option.none : Option Jvm.ClassFile.FieldType)) ∈ ia_T := ia_in7 (List.mem_of_getElem? (i := 111) rfl) rfl
set_option maxRecDepth 100000 in
theorem iw_1662 : (Jvm.Cond.methodLink "EngagedToneModel" (255 : Nat) ({ cls := "EngagedToneModel", name := "lawLine", desc := "()V" } : Jvm.MethodName)) ∈ ia_T := ia_in7 (List.mem_of_getElem? (i := 112) rfl) rfl
set_option maxRecDepth 100000 in
theorem iw_1664 : (Jvm.Cond.instanceMethod ({ cls := "EngagedToneModel", name := "lawLine", desc := "()V" } : Jvm.MethodName)) ∈ ia_T := ia_in7 (List.mem_of_getElem? (i := 114) rfl) rfl
set_option maxRecDepth 100000 in
theorem iw_1665 : (Jvm.Cond.code ({ cls := "EngagedToneModel", name := "lawLine", desc := "()V" } : Jvm.MethodName) prog_12_method_25_code (2 : Nat) (Option.none : Option Jvm.ClassFile.FieldType)) ∈ ia_T := ia_in7 (List.mem_of_getElem? (i := 115) rfl) rfl
set_option maxRecDepth 100000 in
theorem iw_1666 : (Jvm.Cond.methodLink "EngagedToneModel" (264 : Nat) ({ cls := "EngagedToneModel", name := "expression", desc := "()V" } : Jvm.MethodName)) ∈ ia_T := ia_in7 (List.mem_of_getElem? (i := 116) rfl) rfl
set_option maxRecDepth 100000 in
theorem iw_1668 : (Jvm.Cond.instanceMethod ({ cls := "EngagedToneModel", name := "expression", desc := "()V" } : Jvm.MethodName)) ∈ ia_T := ia_in7 (List.mem_of_getElem? (i := 118) rfl) rfl
set_option maxRecDepth 100000 in
theorem iw_1669 : (Jvm.Cond.code ({ cls := "EngagedToneModel", name := "expression", desc := "()V" } : Jvm.MethodName) prog_12_method_28_code (1 : Nat) (Option.none : Option Jvm.ClassFile.FieldType)) ∈ ia_T := ia_in7 (List.mem_of_getElem? (i := 119) rfl) rfl
set_option maxRecDepth 100000 in
theorem iw_1670 : (Jvm.Cond.methodLink "EngagedToneModel" (270 : Nat) ({ cls := "EngagedToneModel", name := "conjunction", desc := "()V" } : Jvm.MethodName)) ∈ ia_T := ia_in7 (List.mem_of_getElem? (i := 120) rfl) rfl
set_option maxRecDepth 100000 in
theorem iw_1672 : (Jvm.Cond.instanceMethod ({ cls := "EngagedToneModel", name := "conjunction", desc := "()V" } : Jvm.MethodName)) ∈ ia_T := ia_in7 (List.mem_of_getElem? (i := 122) rfl) rfl
set_option maxRecDepth 100000 in
theorem iw_1673 : (Jvm.Cond.code ({ cls := "EngagedToneModel", name := "conjunction", desc := "()V" } : Jvm.MethodName) prog_12_method_29_code (1 : Nat) (Option.none : Option Jvm.ClassFile.FieldType)) ∈ ia_T := ia_in7 (List.mem_of_getElem? (i := 123) rfl) rfl
set_option maxRecDepth 100000 in
theorem iw_1674 : (Jvm.Cond.methodLink "EngagedToneModel" (282 : Nat) ({ cls := "EngagedToneModel", name := "negation", desc := "()V" } : Jvm.MethodName)) ∈ ia_T := ia_in7 (List.mem_of_getElem? (i := 124) rfl) rfl
set_option maxRecDepth 100000 in
theorem iw_1676 : (Jvm.Cond.instanceMethod ({ cls := "EngagedToneModel", name := "negation", desc := "()V" } : Jvm.MethodName)) ∈ ia_T := ia_in7 (List.mem_of_getElem? (i := 126) rfl) rfl
set_option maxRecDepth 100000 in
theorem iw_1677 : (Jvm.Cond.code ({ cls := "EngagedToneModel", name := "negation", desc := "()V" } : Jvm.MethodName) prog_12_method_30_code (2 : Nat) (Option.none : Option Jvm.ClassFile.FieldType)) ∈ ia_T := ia_in7 (List.mem_of_getElem? (i := 127) rfl) rfl
set_option maxRecDepth 100000 in
theorem iw_1678 : (Jvm.Cond.methodLink "EngagedToneModel" (273 : Nat) ({ cls := "EngagedToneModel", name := "isWord", desc := "(I)Z" } : Jvm.MethodName)) ∈ ia_T := ia_in7 (List.mem_of_getElem? (i := 128) rfl) rfl
set_option maxRecDepth 100000 in
theorem iw_1680 : (Jvm.Cond.instanceMethod ({ cls := "EngagedToneModel", name := "isWord", desc := "(I)Z" } : Jvm.MethodName)) ∈ ia_T := ia_in7 (List.mem_of_getElem? (i := 130) rfl) rfl
set_option maxRecDepth 100000 in
theorem iw_1681 : (Jvm.Cond.code ({ cls := "EngagedToneModel", name := "isWord", desc := "(I)Z" } : Jvm.MethodName) prog_12_method_12_code (2 : Nat) (Option.some Jvm.ClassFile.FieldType.boolean)) ∈ ia_T := ia_in7 (List.mem_of_getElem? (i := 131) rfl) rfl
set_option maxRecDepth 100000 in
theorem iw_1682 : (Jvm.Cond.methodLink "EngagedToneModel" (276 : Nat) ({ cls := "EngagedToneModel", name := "knot", desc := "()V" } : Jvm.MethodName)) ∈ ia_T := ia_in7 (List.mem_of_getElem? (i := 132) rfl) rfl
set_option maxRecDepth 100000 in
theorem iw_1684 : (Jvm.Cond.instanceMethod ({ cls := "EngagedToneModel", name := "knot", desc := "()V" } : Jvm.MethodName)) ∈ ia_T := ia_in7 (List.mem_of_getElem? (i := 134) rfl) rfl
set_option maxRecDepth 100000 in
theorem iw_1685 : (Jvm.Cond.code ({ cls := "EngagedToneModel", name := "knot", desc := "()V" } : Jvm.MethodName) prog_12_method_27_code (1 : Nat) (Option.none : Option Jvm.ClassFile.FieldType)) ∈ ia_T := ia_in7 (List.mem_of_getElem? (i := 135) rfl) rfl
set_option maxRecDepth 100000 in
theorem iw_1686 : (Jvm.Cond.methodLink "EngagedToneModel" (279 : Nat) ({ cls := "EngagedToneModel", name := "puts", desc := "(II)V" } : Jvm.MethodName)) ∈ ia_T := ia_in7 (List.mem_of_getElem? (i := 136) rfl) rfl
set_option maxRecDepth 100000 in
theorem iw_1688 : (Jvm.Cond.instanceMethod ({ cls := "EngagedToneModel", name := "puts", desc := "(II)V" } : Jvm.MethodName)) ∈ ia_T := ia_in7 (List.mem_of_getElem? (i := 138) rfl) rfl
set_option maxRecDepth 100000 in
theorem iw_1689 : (Jvm.Cond.code ({ cls := "EngagedToneModel", name := "puts", desc := "(II)V" } : Jvm.MethodName) prog_12_method_26_code (3 : Nat) (Option.none : Option Jvm.ClassFile.FieldType)) ∈ ia_T := ia_in7 (List.mem_of_getElem? (i := 139) rfl) rfl
set_option maxRecDepth 100000 in
theorem iw_1690 : (Jvm.Cond.methodLink "EngagedToneModel" (285 : Nat) ({ cls := "EngagedToneModel", name := "sum", desc := "()V" } : Jvm.MethodName)) ∈ ia_T := ia_in7 (List.mem_of_getElem? (i := 140) rfl) rfl
set_option maxRecDepth 100000 in
theorem iw_1692 : (Jvm.Cond.instanceMethod ({ cls := "EngagedToneModel", name := "sum", desc := "()V" } : Jvm.MethodName)) ∈ ia_T := ia_in7 (List.mem_of_getElem? (i := 142) rfl) rfl
set_option maxRecDepth 100000 in
theorem iw_1693 : (Jvm.Cond.code ({ cls := "EngagedToneModel", name := "sum", desc := "()V" } : Jvm.MethodName) prog_12_method_31_code (2 : Nat) (Option.none : Option Jvm.ClassFile.FieldType)) ∈ ia_T := ia_in7 (List.mem_of_getElem? (i := 143) rfl) rfl
set_option maxRecDepth 100000 in
theorem iw_1694 : (Jvm.Cond.methodLink "EngagedToneModel" (288 : Nat) ({ cls := "EngagedToneModel", name := "product", desc := "()V" } : Jvm.MethodName)) ∈ ia_T := ia_in7 (List.mem_of_getElem? (i := 144) rfl) rfl
set_option maxRecDepth 100000 in
theorem iw_1696 : (Jvm.Cond.instanceMethod ({ cls := "EngagedToneModel", name := "product", desc := "()V" } : Jvm.MethodName)) ∈ ia_T := ia_in7 (List.mem_of_getElem? (i := 146) rfl) rfl
set_option maxRecDepth 100000 in
theorem iw_1697 : (Jvm.Cond.code ({ cls := "EngagedToneModel", name := "product", desc := "()V" } : Jvm.MethodName) prog_12_method_32_code (2 : Nat) (Option.none : Option Jvm.ClassFile.FieldType)) ∈ ia_T := ia_in7 (List.mem_of_getElem? (i := 147) rfl) rfl
set_option maxRecDepth 100000 in
theorem iw_1698 : (Jvm.Cond.methodLink "EngagedToneModel" (291 : Nat) ({ cls := "EngagedToneModel", name := "primary", desc := "()V" } : Jvm.MethodName)) ∈ ia_T := ia_in7 (List.mem_of_getElem? (i := 148) rfl) rfl
set_option maxRecDepth 100000 in
theorem iw_1700 : (Jvm.Cond.instanceMethod ({ cls := "EngagedToneModel", name := "primary", desc := "()V" } : Jvm.MethodName)) ∈ ia_T := ia_in7 (List.mem_of_getElem? (i := 150) rfl) rfl
set_option maxRecDepth 100000 in
theorem iw_1701 : (Jvm.Cond.code ({ cls := "EngagedToneModel", name := "primary", desc := "()V" } : Jvm.MethodName) prog_12_method_33_code (2 : Nat) (Option.none : Option Jvm.ClassFile.FieldType)) ∈ ia_T := ia_in7 (List.mem_of_getElem? (i := 151) rfl) rfl
set_option maxRecDepth 100000 in
theorem iw_1702 : (Jvm.Cond.methodLink "EngagedToneModel" (258 : Nat) ({ cls := "EngagedToneModel", name := "isSign", desc := "(I)Z" } : Jvm.MethodName)) ∈ ia_T := ia_in7 (List.mem_of_getElem? (i := 152) rfl) rfl
set_option maxRecDepth 100000 in
theorem iw_1704 : (Jvm.Cond.instanceMethod ({ cls := "EngagedToneModel", name := "isSign", desc := "(I)Z" } : Jvm.MethodName)) ∈ ia_T := ia_in7 (List.mem_of_getElem? (i := 154) rfl) rfl
set_option maxRecDepth 100000 in
theorem iw_1705 : (Jvm.Cond.code ({ cls := "EngagedToneModel", name := "isSign", desc := "(I)Z" } : Jvm.MethodName) prog_12_method_13_code (2 : Nat) (Option.some Jvm.ClassFile.FieldType.boolean)) ∈ ia_T := ia_in7 (List.mem_of_getElem? (i := 155) rfl) rfl
set_option maxRecDepth 100000 in
theorem iw_1706 : (Jvm.Cond.methodLink "EngagedToneModel" (303 : Nat) ({ cls := "EngagedToneModel", name := "half", desc := "([I)V" } : Jvm.MethodName)) ∈ ia_T := ia_in7 (List.mem_of_getElem? (i := 156) rfl) rfl
set_option maxRecDepth 100000 in
theorem iw_1707 : (Jvm.Cond.static ({ cls := "EngagedToneModel", name := "half", desc := "([I)V" } : Jvm.MethodName)) ∈ ia_T := ia_in7 (List.mem_of_getElem? (i := 157) rfl) rfl
set_option maxRecDepth 100000 in
theorem iw_1708 : (Jvm.Cond.code ({ cls := "EngagedToneModel", name := "half", desc := "([I)V" } : Jvm.MethodName) prog_12_method_34_code (3 : Nat) (Option.none : Option Jvm.ClassFile.FieldType)) ∈ ia_T := ia_in7 (List.mem_of_getElem? (i := 158) rfl) rfl
set_option maxRecDepth 100000 in
theorem iw_1709 : (Jvm.Cond.methodLink "EngagedToneLaw" (34 : Nat) ({ cls := "EngagedToneModel", name := "fault", desc := "(I)I" } : Jvm.MethodName)) ∈ ia_T := ia_in7 (List.mem_of_getElem? (i := 159) rfl) rfl
set_option maxRecDepth 100000 in
theorem iw_1710 : (Jvm.Cond.instanceMethod ({ cls := "EngagedToneModel", name := "fault", desc := "(I)I" } : Jvm.MethodName)) ∈ ia_T := ia_in7 (List.mem_of_getElem? (i := 160) rfl) rfl
set_option maxRecDepth 100000 in
theorem iw_1711 : (Jvm.Cond.selects "EngagedToneModel" ({ cls := "EngagedToneModel", name := "fault", desc := "(I)I" } : Jvm.MethodName) ({ cls := "EngagedToneModel", name := "fault", desc := "(I)I" } : Jvm.MethodName)) ∈ ia_T := ia_in7 (List.mem_of_getElem? (i := 161) rfl) rfl
set_option maxRecDepth 100000 in
theorem iw_1712 : (Jvm.Cond.code ({ cls := "EngagedToneModel", name := "fault", desc := "(I)I" } : Jvm.MethodName) prog_12_method_36_code (2 : Nat) (Option.some Jvm.ClassFile.FieldType.int)) ∈ ia_T := ia_in7 (List.mem_of_getElem? (i := 162) rfl) rfl
set_option maxRecDepth 100000 in
theorem iw_1713 : (Jvm.Cond.methodLink "EngagedToneLaw" (38 : Nat) ({ cls := "EngagedToneModel", name := "named", desc := "(I)I" } : Jvm.MethodName)) ∈ ia_T := ia_in7 (List.mem_of_getElem? (i := 163) rfl) rfl
set_option maxRecDepth 100000 in
theorem iw_1714 : (Jvm.Cond.instanceMethod ({ cls := "EngagedToneModel", name := "named", desc := "(I)I" } : Jvm.MethodName)) ∈ ia_T := ia_in7 (List.mem_of_getElem? (i := 164) rfl) rfl
set_option maxRecDepth 100000 in
theorem iw_1715 : (Jvm.Cond.selects "EngagedToneModel" ({ cls := "EngagedToneModel", name := "named", desc := "(I)I" } : Jvm.MethodName) ({ cls := "EngagedToneModel", name := "named", desc := "(I)I" } : Jvm.MethodName)) ∈ ia_T := ia_in7 (List.mem_of_getElem? (i := 165) rfl) rfl
set_option maxRecDepth 100000 in
theorem iw_1716 : (Jvm.Cond.code ({ cls := "EngagedToneModel", name := "named", desc := "(I)I" } : Jvm.MethodName) prog_12_method_37_code (2 : Nat) (Option.some Jvm.ClassFile.FieldType.int)) ∈ ia_T := ia_in7 (List.mem_of_getElem? (i := 166) rfl) rfl
set_option maxRecDepth 100000 in
theorem iw_1717 : (Jvm.Cond.methodLink "EngagedToneLaw" (44 : Nat) ({ cls := "EngagedToneModel", name := "ring", desc := "(II)I" } : Jvm.MethodName)) ∈ ia_T := ia_in7 (List.mem_of_getElem? (i := 167) rfl) rfl
set_option maxRecDepth 100000 in
theorem iw_1718 : (Jvm.Cond.instanceMethod ({ cls := "EngagedToneModel", name := "ring", desc := "(II)I" } : Jvm.MethodName)) ∈ ia_T := ia_in7 (List.mem_of_getElem? (i := 168) rfl) rfl
set_option maxRecDepth 100000 in
theorem iw_1719 : (Jvm.Cond.selects "EngagedToneModel" ({ cls := "EngagedToneModel", name := "ring", desc := "(II)I" } : Jvm.MethodName) ({ cls := "EngagedToneModel", name := "ring", desc := "(II)I" } : Jvm.MethodName)) ∈ ia_T := ia_in7 (List.mem_of_getElem? (i := 169) rfl) rfl
set_option maxRecDepth 100000 in
theorem iw_1720 : (Jvm.Cond.code ({ cls := "EngagedToneModel", name := "ring", desc := "(II)I" } : Jvm.MethodName) prog_12_method_67_code (3 : Nat) (Option.some Jvm.ClassFile.FieldType.int)) ∈ ia_T := ia_in7 (List.mem_of_getElem? (i := 170) rfl) rfl
set_option maxRecDepth 100000 in
theorem iw_1721 : (Jvm.Cond.methodLink "EngagedToneModel" (425 : Nat) ({ cls := "EngagedToneModel", name := "isCall", desc := "(I)Z" } : Jvm.MethodName)) ∈ ia_T := ia_in7 (List.mem_of_getElem? (i := 171) rfl) rfl
set_option maxRecDepth 100000 in
theorem iw_1723 : (Jvm.Cond.instanceMethod ({ cls := "EngagedToneModel", name := "isCall", desc := "(I)Z" } : Jvm.MethodName)) ∈ ia_T := ia_in7 (List.mem_of_getElem? (i := 173) rfl) rfl
set_option maxRecDepth 100000 in
theorem iw_1724 : (Jvm.Cond.code ({ cls := "EngagedToneModel", name := "isCall", desc := "(I)Z" } : Jvm.MethodName) prog_12_method_46_code (2 : Nat) (Option.some Jvm.ClassFile.FieldType.boolean)) ∈ ia_T := ia_in7 (List.mem_of_getElem? (i := 174) rfl) rfl
set_option maxRecDepth 100000 in
theorem iw_1725 : (Jvm.Cond.methodLink "EngagedToneLaw" (52 : Nat) ({ cls := "EngagedToneModel", name := "man", desc := "(II)I" } : Jvm.MethodName)) ∈ ia_T := ia_in7 (List.mem_of_getElem? (i := 175) rfl) rfl
set_option maxRecDepth 100000 in
theorem iw_1726 : (Jvm.Cond.instanceMethod ({ cls := "EngagedToneModel", name := "man", desc := "(II)I" } : Jvm.MethodName)) ∈ ia_T := ia_in7 (List.mem_of_getElem? (i := 176) rfl) rfl
set_option maxRecDepth 100000 in
theorem iw_1727 : (Jvm.Cond.selects "EngagedToneModel" ({ cls := "EngagedToneModel", name := "man", desc := "(II)I" } : Jvm.MethodName) ({ cls := "EngagedToneModel", name := "man", desc := "(II)I" } : Jvm.MethodName)) ∈ ia_T := ia_in7 (List.mem_of_getElem? (i := 177) rfl) rfl
set_option maxRecDepth 100000 in
theorem iw_1728 : (Jvm.Cond.code ({ cls := "EngagedToneModel", name := "man", desc := "(II)I" } : Jvm.MethodName) prog_12_method_68_code (3 : Nat) (Option.some Jvm.ClassFile.FieldType.int)) ∈ ia_T := ia_in7 (List.mem_of_getElem? (i := 178) rfl) rfl
set_option maxRecDepth 100000 in
theorem iw_1729 : (Jvm.Cond.methodLink "EngagedToneModel" (428 : Nat) ({ cls := "EngagedToneModel", name := "isMan", desc := "(I)Z" } : Jvm.MethodName)) ∈ ia_T := ia_in7 (List.mem_of_getElem? (i := 179) rfl) rfl
set_option maxRecDepth 100000 in
theorem iw_1731 : (Jvm.Cond.instanceMethod ({ cls := "EngagedToneModel", name := "isMan", desc := "(I)Z" } : Jvm.MethodName)) ∈ ia_T := ia_in7 (List.mem_of_getElem? (i := 181) rfl) rfl
set_option maxRecDepth 100000 in
theorem iw_1732 : (Jvm.Cond.code ({ cls := "EngagedToneModel", name := "isMan", desc := "(I)Z" } : Jvm.MethodName) prog_12_method_45_code (2 : Nat) (Option.some Jvm.ClassFile.FieldType.boolean)) ∈ ia_T := ia_in7 (List.mem_of_getElem? (i := 182) rfl) rfl
set_option maxRecDepth 100000 in
theorem iw_1733 : (Jvm.Cond.methodLink "EngagedToneModel" (350 : Nat) ({ cls := "EngagedToneModel", name := "isEngaged", desc := "(II)Z" } : Jvm.MethodName)) ∈ ia_T := ia_in7 (List.mem_of_getElem? (i := 183) rfl) rfl
set_option maxRecDepth 100000 in
theorem iw_1735 : (Jvm.Cond.instanceMethod ({ cls := "EngagedToneModel", name := "isEngaged", desc := "(II)Z" } : Jvm.MethodName)) ∈ ia_T := ia_in7 (List.mem_of_getElem? (i := 185) rfl) rfl
set_option maxRecDepth 100000 in
theorem iw_1736 : (Jvm.Cond.code ({ cls := "EngagedToneModel", name := "isEngaged", desc := "(II)Z" } : Jvm.MethodName) prog_12_method_53_code (3 : Nat) (Option.some Jvm.ClassFile.FieldType.boolean)) ∈ ia_T := ia_in7 (List.mem_of_getElem? (i := 186) rfl) rfl
set_option maxRecDepth 100000 in
theorem iw_1737 : (Jvm.Cond.methodLink "EngagedToneModel" (343 : Nat) ({ cls := "EngagedToneModel", name := "callOf", desc := "(II)I" } : Jvm.MethodName)) ∈ ia_T := ia_in7 (List.mem_of_getElem? (i := 187) rfl) rfl
set_option maxRecDepth 100000 in
theorem iw_1739 : (Jvm.Cond.instanceMethod ({ cls := "EngagedToneModel", name := "callOf", desc := "(II)I" } : Jvm.MethodName)) ∈ ia_T := ia_in7 (List.mem_of_getElem? (i := 189) rfl) rfl
set_option maxRecDepth 100000 in
theorem iw_1740 : (Jvm.Cond.code ({ cls := "EngagedToneModel", name := "callOf", desc := "(II)I" } : Jvm.MethodName) prog_12_method_51_code (4 : Nat) (Option.some Jvm.ClassFile.FieldType.int)) ∈ ia_T := ia_in7 (List.mem_of_getElem? (i := 190) rfl) rfl
set_option maxRecDepth 100000 in
theorem iw_1741 : (Jvm.Cond.methodLink "EngagedToneModel" (346 : Nat) ({ cls := "EngagedToneModel", name := "hasTone", desc := "(II)Z" } : Jvm.MethodName)) ∈ ia_T := ia_in7 (List.mem_of_getElem? (i := 191) rfl) rfl
set_option maxRecDepth 100000 in
theorem iw_1743 : (Jvm.Cond.instanceMethod ({ cls := "EngagedToneModel", name := "hasTone", desc := "(II)Z" } : Jvm.MethodName)) ∈ ia_T := ia_in7 (List.mem_of_getElem? (i := 193) rfl) rfl
set_option maxRecDepth 100000 in
theorem iw_1744 : (Jvm.Cond.code ({ cls := "EngagedToneModel", name := "hasTone", desc := "(II)Z" } : Jvm.MethodName) prog_12_method_52_code (4 : Nat) (Option.some Jvm.ClassFile.FieldType.boolean)) ∈ ia_T := ia_in7 (List.mem_of_getElem? (i := 194) rfl) rfl
set_option maxRecDepth 100000 in
theorem iw_1745 : (Jvm.Cond.methodLink "EngagedToneLaw" (56 : Nat) ({ cls := "EngagedToneModel", name := "tone", desc := "(II)I" } : Jvm.MethodName)) ∈ ia_T := ia_in7 (List.mem_of_getElem? (i := 195) rfl) rfl
set_option maxRecDepth 100000 in
theorem iw_1746 : (Jvm.Cond.instanceMethod ({ cls := "EngagedToneModel", name := "tone", desc := "(II)I" } : Jvm.MethodName)) ∈ ia_T := ia_in7 (List.mem_of_getElem? (i := 196) rfl) rfl
set_option maxRecDepth 100000 in
theorem iw_1747 : (Jvm.Cond.selects "EngagedToneModel" ({ cls := "EngagedToneModel", name := "tone", desc := "(II)I" } : Jvm.MethodName) ({ cls := "EngagedToneModel", name := "tone", desc := "(II)I" } : Jvm.MethodName)) ∈ ia_T := ia_in7 (List.mem_of_getElem? (i := 197) rfl) rfl
set_option maxRecDepth 100000 in
theorem iw_1748 : (Jvm.Cond.code ({ cls := "EngagedToneModel", name := "tone", desc := "(II)I" } : Jvm.MethodName) prog_12_method_69_code (3 : Nat) (Option.some Jvm.ClassFile.FieldType.int)) ∈ ia_T := ia_in7 (List.mem_of_getElem? (i := 198) rfl) rfl
set_option maxRecDepth 100000 in
theorem iw_1749 : (Jvm.Cond.methodLink "EngagedToneModel" (431 : Nat) ({ cls := "EngagedToneModel", name := "isTone", desc := "(I)Z" } : Jvm.MethodName)) ∈ ia_T := ia_in7 (List.mem_of_getElem? (i := 199) rfl) rfl
set_option maxRecDepth 100000 in
theorem iw_1751 : (Jvm.Cond.instanceMethod ({ cls := "EngagedToneModel", name := "isTone", desc := "(I)Z" } : Jvm.MethodName)) ∈ ia_T := ia_in7 (List.mem_of_getElem? (i := 201) rfl) rfl
set_option maxRecDepth 100000 in
theorem iw_1752 : (Jvm.Cond.code ({ cls := "EngagedToneModel", name := "isTone", desc := "(I)Z" } : Jvm.MethodName) prog_12_method_47_code (2 : Nat) (Option.some Jvm.ClassFile.FieldType.boolean)) ∈ ia_T := ia_in7 (List.mem_of_getElem? (i := 202) rfl) rfl
set_option maxRecDepth 100000 in
theorem iw_1753 : (Jvm.Cond.methodLink "EngagedToneLaw" (60 : Nat) ({ cls := "EngagedToneModel", name := "price", desc := "(I)I" } : Jvm.MethodName)) ∈ ia_T := ia_in7 (List.mem_of_getElem? (i := 203) rfl) rfl
set_option maxRecDepth 100000 in
theorem iw_1754 : (Jvm.Cond.instanceMethod ({ cls := "EngagedToneModel", name := "price", desc := "(I)I" } : Jvm.MethodName)) ∈ ia_T := ia_in7 (List.mem_of_getElem? (i := 204) rfl) rfl
set_option maxRecDepth 100000 in
theorem iw_1755 : (Jvm.Cond.selects "EngagedToneModel" ({ cls := "EngagedToneModel", name := "price", desc := "(I)I" } : Jvm.MethodName) ({ cls := "EngagedToneModel", name := "price", desc := "(I)I" } : Jvm.MethodName)) ∈ ia_T := ia_in7 (List.mem_of_getElem? (i := 205) rfl) rfl
set_option maxRecDepth 100000 in
theorem iw_1756 : (Jvm.Cond.code ({ cls := "EngagedToneModel", name := "price", desc := "(I)I" } : Jvm.MethodName) prog_12_method_70_code (2 : Nat) (Option.some Jvm.ClassFile.FieldType.int)) ∈ ia_T := ia_in7 (List.mem_of_getElem? (i := 206) rfl) rfl
set_option maxRecDepth 100000 in
theorem iw_1757 : (Jvm.Cond.methodLink "EngagedToneModel" (356 : Nat) ({ cls := "EngagedToneModel", name := "priceAt", desc := "(I)I" } : Jvm.MethodName)) ∈ ia_T := ia_in7 (List.mem_of_getElem? (i := 207) rfl) rfl
set_option maxRecDepth 100000 in
theorem iw_1759 : (Jvm.Cond.instanceMethod ({ cls := "EngagedToneModel", name := "priceAt", desc := "(I)I" } : Jvm.MethodName)) ∈ ia_T := ia_in7 (List.mem_of_getElem? (i := 209) rfl) rfl
set_option maxRecDepth 100000 in
theorem iw_1760 : (Jvm.Cond.code ({ cls := "EngagedToneModel", name := "priceAt", desc := "(I)I" } : Jvm.MethodName) prog_12_method_50_code (4 : Nat) (Option.some Jvm.ClassFile.FieldType.int)) ∈ ia_T := ia_in7 (List.mem_of_getElem? (i := 210) rfl) rfl
set_option maxRecDepth 100000 in
theorem iw_1761 : (Jvm.Cond.methodLink "EngagedToneLaw" (65 : Nat) ({ cls := "EngagedToneModel", name := "law", desc := "(II)J" } : Jvm.MethodName)) ∈ ia_T := ia_in7 (List.mem_of_getElem? (i := 211) rfl) rfl
set_option maxRecDepth 100000 in
theorem iw_1762 : (Jvm.Cond.instanceMethod ({ cls := "EngagedToneModel", name := "law", desc := "(II)J" } : Jvm.MethodName)) ∈ ia_T := ia_in7 (List.mem_of_getElem? (i := 212) rfl) rfl
set_option maxRecDepth 100000 in
theorem iw_1763 : (Jvm.Cond.selects "EngagedToneModel" ({ cls := "EngagedToneModel", name := "law", desc := "(II)J" } : Jvm.MethodName) ({ cls := "EngagedToneModel", name := "law", desc := "(II)J" } : Jvm.MethodName)) ∈ ia_T := ia_in7 (List.mem_of_getElem? (i := 213) rfl) rfl
set_option maxRecDepth 100000 in
theorem iw_1764 : (Jvm.Cond.code ({ cls := "EngagedToneModel", name := "law", desc := "(II)J" } : Jvm.MethodName) prog_12_method_71_code (3 : Nat) (Option.some Jvm.ClassFile.FieldType.long)) ∈ ia_T := ia_in7 (List.mem_of_getElem? (i := 214) rfl) rfl
set_option maxRecDepth 100000 in
theorem iw_1765 : (Jvm.Cond.methodLink "EngagedToneModel" (359 : Nat) ({ cls := "EngagedToneModel", name := "hasLaw", desc := "(I)Z" } : Jvm.MethodName)) ∈ ia_T := ia_in7 (List.mem_of_getElem? (i := 215) rfl) rfl
set_option maxRecDepth 100000 in
theorem iw_1767 : (Jvm.Cond.instanceMethod ({ cls := "EngagedToneModel", name := "hasLaw", desc := "(I)Z" } : Jvm.MethodName)) ∈ ia_T := ia_in7 (List.mem_of_getElem? (i := 217) rfl) rfl
set_option maxRecDepth 100000 in
theorem iw_1768 : (Jvm.Cond.code ({ cls := "EngagedToneModel", name := "hasLaw", desc := "(I)Z" } : Jvm.MethodName) prog_12_method_41_code (2 : Nat) (Option.some Jvm.ClassFile.FieldType.boolean)) ∈ ia_T := ia_in7 (List.mem_of_getElem? (i := 218) rfl) rfl
set_option maxRecDepth 100000 in
theorem iw_1769 : (Jvm.Cond.constantLong "EngagedToneModel" (436 : Nat) (-9223372036854775808 : Int64)) ∈ ia_T := ia_in7 (List.mem_of_getElem? (i := 219) rfl) rfl
set_option maxRecDepth 100000 in
theorem iw_1770 : (Jvm.Cond.methodLink "EngagedToneModel" (372 : Nat) ({ cls := "EngagedToneModel", name := "calls", desc := "(III)V" } : Jvm.MethodName)) ∈ ia_T := ia_in7 (List.mem_of_getElem? (i := 220) rfl) rfl
set_option maxRecDepth 100000 in
theorem iw_1772 : (Jvm.Cond.instanceMethod ({ cls := "EngagedToneModel", name := "calls", desc := "(III)V" } : Jvm.MethodName)) ∈ ia_T := ia_in7 (List.mem_of_getElem? (i := 222) rfl) rfl
set_option maxRecDepth 100000 in
theorem iw_1773 : (Jvm.Cond.code ({ cls := "EngagedToneModel", name := "calls", desc := "(III)V" } : Jvm.MethodName) prog_12_method_55_code (4 : Nat) (Option.none : Option Jvm.ClassFile.FieldType)) ∈ ia_T := ia_in7 (List.mem_of_getElem? (i := 223) rfl) rfl
set_option maxRecDepth 100000 in
theorem iw_1774 : (Jvm.Cond.methodLink "EngagedToneModel" (353 : Nat) ({ cls := "EngagedToneModel", name := "engagedMany", desc := "(I)I" } : Jvm.MethodName)) ∈ ia_T := ia_in7 (List.mem_of_getElem? (i := 224) rfl) rfl
set_option maxRecDepth 100000 in
theorem iw_1776 : (Jvm.Cond.instanceMethod ({ cls := "EngagedToneModel", name := "engagedMany", desc := "(I)I" } : Jvm.MethodName)) ∈ ia_T := ia_in7 (List.mem_of_getElem? (i := 226) rfl) rfl
set_option maxRecDepth 100000 in
theorem iw_1777 : (Jvm.Cond.code ({ cls := "EngagedToneModel", name := "engagedMany", desc := "(I)I" } : Jvm.MethodName) prog_12_method_54_code (4 : Nat) (Option.some Jvm.ClassFile.FieldType.int)) ∈ ia_T := ia_in7 (List.mem_of_getElem? (i := 227) rfl) rfl
set_option maxRecDepth 100000 in
theorem iw_1778 : (Jvm.Cond.methodLink "EngagedToneModel" (362 : Nat) ({ cls := "EngagedToneModel", name := "goes", desc := "(I)Z" } : Jvm.MethodName)) ∈ ia_T := ia_in7 (List.mem_of_getElem? (i := 228) rfl) rfl
set_option maxRecDepth 100000 in
theorem iw_1780 : (Jvm.Cond.instanceMethod ({ cls := "EngagedToneModel", name := "goes", desc := "(I)Z" } : Jvm.MethodName)) ∈ ia_T := ia_in7 (List.mem_of_getElem? (i := 230) rfl) rfl
set_option maxRecDepth 100000 in
theorem iw_1781 : (Jvm.Cond.code ({ cls := "EngagedToneModel", name := "goes", desc := "(I)Z" } : Jvm.MethodName) prog_12_method_40_code (3 : Nat) (Option.some Jvm.ClassFile.FieldType.boolean)) ∈ ia_T := ia_in7 (List.mem_of_getElem? (i := 231) rfl) rfl
set_option maxRecDepth 100000 in
theorem iw_1782 : (Jvm.Cond.methodLink "EngagedToneModel" (334 : Nat) ({ cls := "EngagedToneModel", name := "works", desc := "(I)Z" } : Jvm.MethodName)) ∈ ia_T := ia_in7 (List.mem_of_getElem? (i := 232) rfl) rfl
set_option maxRecDepth 100000 in
theorem iw_1784 : (Jvm.Cond.instanceMethod ({ cls := "EngagedToneModel", name := "works", desc := "(I)Z" } : Jvm.MethodName)) ∈ ia_T := ia_in7 (List.mem_of_getElem? (i := 234) rfl) rfl
set_option maxRecDepth 100000 in
theorem iw_1785 : (Jvm.Cond.code ({ cls := "EngagedToneModel", name := "works", desc := "(I)Z" } : Jvm.MethodName) prog_12_method_39_code (8 : Nat) (Option.some Jvm.ClassFile.FieldType.boolean)) ∈ ia_T := ia_in7 (List.mem_of_getElem? (i := 235) rfl) rfl
set_option maxRecDepth 100000 in
theorem iw_1786 : (Jvm.Cond.methodLink "EngagedToneModel" (320 : Nat) ({ cls := "EngagedToneModel", name := "is", desc := "(Z)J" } : Jvm.MethodName)) ∈ ia_T := ia_in7 (List.mem_of_getElem? (i := 236) rfl) rfl
set_option maxRecDepth 100000 in
theorem iw_1787 : (Jvm.Cond.static ({ cls := "EngagedToneModel", name := "is", desc := "(Z)J" } : Jvm.MethodName)) ∈ ia_T := ia_in7 (List.mem_of_getElem? (i := 237) rfl) rfl
set_option maxRecDepth 100000 in
theorem iw_1788 : (Jvm.Cond.code ({ cls := "EngagedToneModel", name := "is", desc := "(Z)J" } : Jvm.MethodName) prog_12_method_38_code (1 : Nat) (Option.some Jvm.ClassFile.FieldType.long)) ∈ ia_T := ia_in7 (List.mem_of_getElem? (i := 238) rfl) rfl
set_option maxRecDepth 100000 in
theorem iw_1789 : (Jvm.Cond.methodLink "EngagedToneModel" (324 : Nat) ({ cls := "java/lang/Math", name := "abs", desc := "(J)J" } : Jvm.MethodName)) ∈ ia_T := ia_in7 (List.mem_of_getElem? (i := 239) rfl) rfl
set_option maxRecDepth 100000 in
theorem iw_1790 : (Jvm.Cond.static ({ cls := "java/lang/Math", name := "abs", desc := "(J)J" } : Jvm.MethodName)) ∈ ia_T := ia_in8 (List.mem_of_getElem? (i := 0) rfl) rfl
set_option maxRecDepth 100000 in
theorem iw_1791 : (Jvm.Cond.code ({ cls := "java/lang/Math", name := "abs", desc := "(J)J" } : Jvm.MethodName) prog_20_method_61_code (2 : Nat) (Option.some Jvm.ClassFile.FieldType.long)) ∈ ia_T := ia_in8 (List.mem_of_getElem? (i := 1) rfl) rfl
set_option maxRecDepth 100000 in
theorem iw_1792 : (Jvm.Cond.constantLong "EngagedToneModel" (330 : Nat) (1000000000000 : Int64)) ∈ ia_T := ia_in8 (List.mem_of_getElem? (i := 2) rfl) rfl
set_option maxRecDepth 100000 in
theorem iw_1793 : (Jvm.Cond.constantLong "EngagedToneModel" (332 : Nat) (-1000000000000 : Int64)) ∈ ia_T := ia_in8 (List.mem_of_getElem? (i := 3) rfl) rfl
set_option maxRecDepth 100000 in
theorem iw_1794 : (Jvm.Cond.methodLink "EngagedToneLaw" (70 : Nat) ({ cls := "EngagedToneModel", name := "buy", desc := "(III)I" } : Jvm.MethodName)) ∈ ia_T := ia_in8 (List.mem_of_getElem? (i := 4) rfl) rfl
set_option maxRecDepth 100000 in
theorem iw_1795 : (Jvm.Cond.instanceMethod ({ cls := "EngagedToneModel", name := "buy", desc := "(III)I" } : Jvm.MethodName)) ∈ ia_T := ia_in8 (List.mem_of_getElem? (i := 5) rfl) rfl
set_option maxRecDepth 100000 in
theorem iw_1796 : (Jvm.Cond.selects "EngagedToneModel" ({ cls := "EngagedToneModel", name := "buy", desc := "(III)I" } : Jvm.MethodName) ({ cls := "EngagedToneModel", name := "buy", desc := "(III)I" } : Jvm.MethodName)) ∈ ia_T := ia_in8 (List.mem_of_getElem? (i := 6) rfl) rfl
set_option maxRecDepth 100000 in
theorem iw_1797 : (Jvm.Cond.code ({ cls := "EngagedToneModel", name := "buy", desc := "(III)I" } : Jvm.MethodName) prog_12_method_73_code (5 : Nat) (Option.some Jvm.ClassFile.FieldType.int)) ∈ ia_T := ia_in8 (List.mem_of_getElem? (i := 7) rfl) rfl
set_option maxRecDepth 100000 in
theorem iw_1798 : (Jvm.Cond.methodLink "EngagedToneModel" (438 : Nat) ({ cls := "EngagedToneModel", name := "keepNow", desc := "()V" } : Jvm.MethodName)) ∈ ia_T := ia_in8 (List.mem_of_getElem? (i := 8) rfl) rfl
set_option maxRecDepth 100000 in
theorem iw_1800 : (Jvm.Cond.instanceMethod ({ cls := "EngagedToneModel", name := "keepNow", desc := "()V" } : Jvm.MethodName)) ∈ ia_T := ia_in8 (List.mem_of_getElem? (i := 10) rfl) rfl
set_option maxRecDepth 100000 in
theorem iw_1801 : (Jvm.Cond.code ({ cls := "EngagedToneModel", name := "keepNow", desc := "()V" } : Jvm.MethodName) prog_12_method_72_code (2 : Nat) (Option.none : Option Jvm.ClassFile.FieldType)) ∈ ia_T := ia_in8 (List.mem_of_getElem? (i := 11) rfl) rfl
set_option maxRecDepth 100000 in
theorem iw_1802 : (Jvm.Cond.methodLink "EngagedToneModel" (419 : Nat) ({ cls := "EngagedToneModel", name := "copies", desc := "(II)V" } : Jvm.MethodName)) ∈ ia_T := ia_in8 (List.mem_of_getElem? (i := 12) rfl) rfl
set_option maxRecDepth 100000 in
theorem iw_1804 : (Jvm.Cond.instanceMethod ({ cls := "EngagedToneModel", name := "copies", desc := "(II)V" } : Jvm.MethodName)) ∈ ia_T := ia_in8 (List.mem_of_getElem? (i := 14) rfl) rfl
set_option maxRecDepth 100000 in
theorem iw_1805 : (Jvm.Cond.code ({ cls := "EngagedToneModel", name := "copies", desc := "(II)V" } : Jvm.MethodName) prog_12_method_44_code (6 : Nat) (Option.none : Option Jvm.ClassFile.FieldType)) ∈ ia_T := ia_in8 (List.mem_of_getElem? (i := 15) rfl) rfl
set_option maxRecDepth 100000 in
theorem iw_1806 : (Jvm.Cond.methodLink "EngagedToneLaw" (75 : Nat) ({ cls := "EngagedToneModel", name := "put", desc := "(II)Z" } : Jvm.MethodName)) ∈ ia_T := ia_in8 (List.mem_of_getElem? (i := 16) rfl) rfl
set_option maxRecDepth 100000 in
theorem iw_1807 : (Jvm.Cond.instanceMethod ({ cls := "EngagedToneModel", name := "put", desc := "(II)Z" } : Jvm.MethodName)) ∈ ia_T := ia_in8 (List.mem_of_getElem? (i := 17) rfl) rfl
set_option maxRecDepth 100000 in
theorem iw_1808 : (Jvm.Cond.selects "EngagedToneModel" ({ cls := "EngagedToneModel", name := "put", desc := "(II)Z" } : Jvm.MethodName) ({ cls := "EngagedToneModel", name := "put", desc := "(II)Z" } : Jvm.MethodName)) ∈ ia_T := ia_in8 (List.mem_of_getElem? (i := 18) rfl) rfl
set_option maxRecDepth 100000 in
theorem iw_1809 : (Jvm.Cond.code ({ cls := "EngagedToneModel", name := "put", desc := "(II)Z" } : Jvm.MethodName) prog_12_method_74_code (3 : Nat) (Option.some Jvm.ClassFile.FieldType.boolean)) ∈ ia_T := ia_in8 (List.mem_of_getElem? (i := 19) rfl) rfl
set_option maxRecDepth 100000 in
theorem iw_1810 : (Jvm.Cond.methodLink "EngagedToneLaw" (79 : Nat) ({ cls := "EngagedToneModel", name := "hang", desc := "(I)I" } : Jvm.MethodName)) ∈ ia_T := ia_in8 (List.mem_of_getElem? (i := 20) rfl) rfl
set_option maxRecDepth 100000 in
theorem iw_1811 : (Jvm.Cond.instanceMethod ({ cls := "EngagedToneModel", name := "hang", desc := "(I)I" } : Jvm.MethodName)) ∈ ia_T := ia_in8 (List.mem_of_getElem? (i := 21) rfl) rfl
set_option maxRecDepth 100000 in
theorem iw_1812 : (Jvm.Cond.selects "EngagedToneModel" ({ cls := "EngagedToneModel", name := "hang", desc := "(I)I" } : Jvm.MethodName) ({ cls := "EngagedToneModel", name := "hang", desc := "(I)I" } : Jvm.MethodName)) ∈ ia_T := ia_in8 (List.mem_of_getElem? (i := 22) rfl) rfl
set_option maxRecDepth 100000 in
theorem iw_1813 : (Jvm.Cond.code ({ cls := "EngagedToneModel", name := "hang", desc := "(I)I" } : Jvm.MethodName) prog_12_method_75_code (2 : Nat) (Option.some Jvm.ClassFile.FieldType.int)) ∈ ia_T := ia_in8 (List.mem_of_getElem? (i := 23) rfl) rfl
set_option maxRecDepth 100000 in
theorem iw_1814 : (Jvm.Cond.methodLink "EngagedToneLaw" (83 : Nat) ({ cls := "EngagedToneModel", name := "lend", desc := "(II)I" } : Jvm.MethodName)) ∈ ia_T := ia_in8 (List.mem_of_getElem? (i := 24) rfl) rfl
set_option maxRecDepth 100000 in
theorem iw_1815 : (Jvm.Cond.instanceMethod ({ cls := "EngagedToneModel", name := "lend", desc := "(II)I" } : Jvm.MethodName)) ∈ ia_T := ia_in8 (List.mem_of_getElem? (i := 25) rfl) rfl
set_option maxRecDepth 100000 in
theorem iw_1816 : (Jvm.Cond.selects "EngagedToneModel" ({ cls := "EngagedToneModel", name := "lend", desc := "(II)I" } : Jvm.MethodName) ({ cls := "EngagedToneModel", name := "lend", desc := "(II)I" } : Jvm.MethodName)) ∈ ia_T := ia_in8 (List.mem_of_getElem? (i := 26) rfl) rfl
set_option maxRecDepth 100000 in
theorem iw_1817 : (Jvm.Cond.code ({ cls := "EngagedToneModel", name := "lend", desc := "(II)I" } : Jvm.MethodName) prog_12_method_76_code (3 : Nat) (Option.some Jvm.ClassFile.FieldType.int)) ∈ ia_T := ia_in8 (List.mem_of_getElem? (i := 27) rfl) rfl
set_option maxRecDepth 100000 in
theorem iw_1818 : (Jvm.Cond.methodLink "EngagedToneLaw" (87 : Nat) ({ cls := "EngagedToneModel", name := "go", desc := "(I)I" } : Jvm.MethodName)) ∈ ia_T := ia_in8 (List.mem_of_getElem? (i := 28) rfl) rfl
set_option maxRecDepth 100000 in
theorem iw_1819 : (Jvm.Cond.instanceMethod ({ cls := "EngagedToneModel", name := "go", desc := "(I)I" } : Jvm.MethodName)) ∈ ia_T := ia_in8 (List.mem_of_getElem? (i := 29) rfl) rfl
set_option maxRecDepth 100000 in
theorem iw_1820 : (Jvm.Cond.selects "EngagedToneModel" ({ cls := "EngagedToneModel", name := "go", desc := "(I)I" } : Jvm.MethodName) ({ cls := "EngagedToneModel", name := "go", desc := "(I)I" } : Jvm.MethodName)) ∈ ia_T := ia_in8 (List.mem_of_getElem? (i := 30) rfl) rfl
set_option maxRecDepth 100000 in
theorem iw_1821 : (Jvm.Cond.code ({ cls := "EngagedToneModel", name := "go", desc := "(I)I" } : Jvm.MethodName) prog_12_method_77_code (3 : Nat) (Option.some Jvm.ClassFile.FieldType.int)) ∈ ia_T := ia_in8 (List.mem_of_getElem? (i := 31) rfl) rfl
set_option maxRecDepth 100000 in
theorem iw_1822 : (Jvm.Cond.methodLink "EngagedToneModel" (416 : Nat) ({ cls := "EngagedToneModel", name := "passes", desc := "(I)V" } : Jvm.MethodName)) ∈ ia_T := ia_in8 (List.mem_of_getElem? (i := 32) rfl) rfl
set_option maxRecDepth 100000 in
theorem iw_1824 : (Jvm.Cond.instanceMethod ({ cls := "EngagedToneModel", name := "passes", desc := "(I)V" } : Jvm.MethodName)) ∈ ia_T := ia_in8 (List.mem_of_getElem? (i := 34) rfl) rfl
set_option maxRecDepth 100000 in
theorem iw_1825 : (Jvm.Cond.code ({ cls := "EngagedToneModel", name := "passes", desc := "(I)V" } : Jvm.MethodName) prog_12_method_63_code (2 : Nat) (Option.none : Option Jvm.ClassFile.FieldType)) ∈ ia_T := ia_in8 (List.mem_of_getElem? (i := 35) rfl) rfl
set_option maxRecDepth 100000 in
theorem iw_1826 : (Jvm.Cond.methodLink "EngagedToneModel" (410 : Nat) ({ cls := "EngagedToneModel", name := "comes", desc := "(I)V" } : Jvm.MethodName)) ∈ ia_T := ia_in8 (List.mem_of_getElem? (i := 36) rfl) rfl
set_option maxRecDepth 100000 in
theorem iw_1828 : (Jvm.Cond.instanceMethod ({ cls := "EngagedToneModel", name := "comes", desc := "(I)V" } : Jvm.MethodName)) ∈ ia_T := ia_in8 (List.mem_of_getElem? (i := 38) rfl) rfl
set_option maxRecDepth 100000 in
theorem iw_1829 : (Jvm.Cond.code ({ cls := "EngagedToneModel", name := "comes", desc := "(I)V" } : Jvm.MethodName) prog_12_method_61_code (4 : Nat) (Option.none : Option Jvm.ClassFile.FieldType)) ∈ ia_T := ia_in8 (List.mem_of_getElem? (i := 39) rfl) rfl
set_option maxRecDepth 100000 in
theorem iw_1830 : (Jvm.Cond.methodLink "EngagedToneModel" (404 : Nat) ({ cls := "EngagedToneModel", name := "tonesGo", desc := "(I)V" } : Jvm.MethodName)) ∈ ia_T := ia_in8 (List.mem_of_getElem? (i := 40) rfl) rfl
set_option maxRecDepth 100000 in
theorem iw_1832 : (Jvm.Cond.instanceMethod ({ cls := "EngagedToneModel", name := "tonesGo", desc := "(I)V" } : Jvm.MethodName)) ∈ ia_T := ia_in8 (List.mem_of_getElem? (i := 42) rfl) rfl
set_option maxRecDepth 100000 in
theorem iw_1833 : (Jvm.Cond.code ({ cls := "EngagedToneModel", name := "tonesGo", desc := "(I)V" } : Jvm.MethodName) prog_12_method_58_code (6 : Nat) (Option.none : Option Jvm.ClassFile.FieldType)) ∈ ia_T := ia_in8 (List.mem_of_getElem? (i := 43) rfl) rfl
set_option maxRecDepth 100000 in
theorem iw_1834 : (Jvm.Cond.methodLink "EngagedToneModel" (382 : Nat) ({ cls := "EngagedToneModel", name := "costOf", desc := "(II)I" } : Jvm.MethodName)) ∈ ia_T := ia_in8 (List.mem_of_getElem? (i := 44) rfl) rfl
set_option maxRecDepth 100000 in
theorem iw_1836 : (Jvm.Cond.instanceMethod ({ cls := "EngagedToneModel", name := "costOf", desc := "(II)I" } : Jvm.MethodName)) ∈ ia_T := ia_in8 (List.mem_of_getElem? (i := 46) rfl) rfl
set_option maxRecDepth 100000 in
theorem iw_1837 : (Jvm.Cond.code ({ cls := "EngagedToneModel", name := "costOf", desc := "(II)I" } : Jvm.MethodName) prog_12_method_57_code (3 : Nat) (Option.some Jvm.ClassFile.FieldType.int)) ∈ ia_T := ia_in8 (List.mem_of_getElem? (i := 47) rfl) rfl
set_option maxRecDepth 100000 in
theorem iw_1838 : (Jvm.Cond.methodLink "EngagedToneModel" (376 : Nat) ({ cls := "java/lang/Math", name := "min", desc := "(II)I" } : Jvm.MethodName)) ∈ ia_T := ia_in8 (List.mem_of_getElem? (i := 48) rfl) rfl
set_option maxRecDepth 100000 in
theorem iw_1839 : (Jvm.Cond.methodLink "EngagedToneModel" (378 : Nat) ({ cls := "EngagedToneModel", name := "within", desc := "(IIII)I" } : Jvm.MethodName)) ∈ ia_T := ia_in8 (List.mem_of_getElem? (i := 49) rfl) rfl
set_option maxRecDepth 100000 in
theorem iw_1841 : (Jvm.Cond.instanceMethod ({ cls := "EngagedToneModel", name := "within", desc := "(IIII)I" } : Jvm.MethodName)) ∈ ia_T := ia_in8 (List.mem_of_getElem? (i := 51) rfl) rfl
set_option maxRecDepth 100000 in
theorem iw_1842 : (Jvm.Cond.code ({ cls := "EngagedToneModel", name := "within", desc := "(IIII)I" } : Jvm.MethodName) prog_12_method_56_code (5 : Nat) (Option.some Jvm.ClassFile.FieldType.int)) ∈ ia_T := ia_in8 (List.mem_of_getElem? (i := 52) rfl) rfl
set_option maxRecDepth 100000 in
theorem iw_1843 : (Jvm.Cond.methodLink "EngagedToneModel" (365 : Nat) ({ cls := "java/lang/Math", name := "min", desc := "(JJ)J" } : Jvm.MethodName)) ∈ ia_T := ia_in8 (List.mem_of_getElem? (i := 53) rfl) rfl
set_option maxRecDepth 100000 in
theorem iw_1844 : (Jvm.Cond.methodLink "EngagedToneModel" (369 : Nat) ({ cls := "java/lang/Math", name := "max", desc := "(JJ)J" } : Jvm.MethodName)) ∈ ia_T := ia_in8 (List.mem_of_getElem? (i := 54) rfl) rfl
set_option maxRecDepth 100000 in
theorem iw_1845 : (Jvm.Cond.methodLink "EngagedToneModel" (407 : Nat) ({ cls := "EngagedToneModel", name := "tries", desc := "(II)V" } : Jvm.MethodName)) ∈ ia_T := ia_in8 (List.mem_of_getElem? (i := 55) rfl) rfl
set_option maxRecDepth 100000 in
theorem iw_1847 : (Jvm.Cond.instanceMethod ({ cls := "EngagedToneModel", name := "tries", desc := "(II)V" } : Jvm.MethodName)) ∈ ia_T := ia_in8 (List.mem_of_getElem? (i := 57) rfl) rfl
set_option maxRecDepth 100000 in
theorem iw_1848 : (Jvm.Cond.code ({ cls := "EngagedToneModel", name := "tries", desc := "(II)V" } : Jvm.MethodName) prog_12_method_60_code (4 : Nat) (Option.none : Option Jvm.ClassFile.FieldType)) ∈ ia_T := ia_in8 (List.mem_of_getElem? (i := 58) rfl) rfl
set_option maxRecDepth 100000 in
theorem iw_1849 : (Jvm.Cond.methodLink "EngagedToneModel" (385 : Nat) ({ cls := "EngagedToneModel", name := "callsOf", desc := "(II)I" } : Jvm.MethodName)) ∈ ia_T := ia_in8 (List.mem_of_getElem? (i := 59) rfl) rfl
set_option maxRecDepth 100000 in
theorem iw_1851 : (Jvm.Cond.instanceMethod ({ cls := "EngagedToneModel", name := "callsOf", desc := "(II)I" } : Jvm.MethodName)) ∈ ia_T := ia_in8 (List.mem_of_getElem? (i := 61) rfl) rfl
set_option maxRecDepth 100000 in
theorem iw_1852 : (Jvm.Cond.code ({ cls := "EngagedToneModel", name := "callsOf", desc := "(II)I" } : Jvm.MethodName) prog_12_method_59_code (5 : Nat) (Option.some Jvm.ClassFile.FieldType.int)) ∈ ia_T := ia_in8 (List.mem_of_getElem? (i := 62) rfl) rfl
set_option maxRecDepth 100000 in
theorem iw_1853 : (Jvm.Cond.methodLink "EngagedToneModel" (388 : Nat) ({ cls := "EngagedToneModel", name := "linesNow", desc := "()I" } : Jvm.MethodName)) ∈ ia_T := ia_in8 (List.mem_of_getElem? (i := 63) rfl) rfl
set_option maxRecDepth 100000 in
theorem iw_1855 : (Jvm.Cond.instanceMethod ({ cls := "EngagedToneModel", name := "linesNow", desc := "()I" } : Jvm.MethodName)) ∈ ia_T := ia_in8 (List.mem_of_getElem? (i := 65) rfl) rfl
set_option maxRecDepth 100000 in
theorem iw_1856 : (Jvm.Cond.code ({ cls := "EngagedToneModel", name := "linesNow", desc := "()I" } : Jvm.MethodName) prog_12_method_48_code (1 : Nat) (Option.some Jvm.ClassFile.FieldType.int)) ∈ ia_T := ia_in8 (List.mem_of_getElem? (i := 66) rfl) rfl
set_option maxRecDepth 100000 in
theorem iw_1857 : (Jvm.Cond.constant "EngagedToneModel" (397 : Nat) (1103515245 : Int32)) ∈ ia_T := ia_in8 (List.mem_of_getElem? (i := 67) rfl) rfl
set_option maxRecDepth 100000 in
theorem iw_1858 : (Jvm.Cond.constant "EngagedToneModel" (400 : Nat) (2147483647 : Int32)) ∈ ia_T := ia_in8 (List.mem_of_getElem? (i := 68) rfl) rfl
set_option maxRecDepth 100000 in
theorem iw_1859 : (Jvm.Cond.methodLink "EngagedToneModel" (401 : Nat) ({ cls := "EngagedToneModel", name := "triesNow", desc := "()I" } : Jvm.MethodName)) ∈ ia_T := ia_in8 (List.mem_of_getElem? (i := 69) rfl) rfl
set_option maxRecDepth 100000 in
theorem iw_1861 : (Jvm.Cond.instanceMethod ({ cls := "EngagedToneModel", name := "triesNow", desc := "()I" } : Jvm.MethodName)) ∈ ia_T := ia_in8 (List.mem_of_getElem? (i := 71) rfl) rfl
set_option maxRecDepth 100000 in
theorem iw_1862 : (Jvm.Cond.code ({ cls := "EngagedToneModel", name := "triesNow", desc := "()I" } : Jvm.MethodName) prog_12_method_49_code (1 : Nat) (Option.some Jvm.ClassFile.FieldType.int)) ∈ ia_T := ia_in8 (List.mem_of_getElem? (i := 72) rfl) rfl
set_option maxRecDepth 100000 in
theorem iw_1863 : (Jvm.Cond.methodLink "EngagedToneModel" (413 : Nat) ({ cls := "EngagedToneModel", name := "fames", desc := "(I)V" } : Jvm.MethodName)) ∈ ia_T := ia_in8 (List.mem_of_getElem? (i := 73) rfl) rfl
set_option maxRecDepth 100000 in
theorem iw_1865 : (Jvm.Cond.instanceMethod ({ cls := "EngagedToneModel", name := "fames", desc := "(I)V" } : Jvm.MethodName)) ∈ ia_T := ia_in8 (List.mem_of_getElem? (i := 75) rfl) rfl
set_option maxRecDepth 100000 in
theorem iw_1866 : (Jvm.Cond.code ({ cls := "EngagedToneModel", name := "fames", desc := "(I)V" } : Jvm.MethodName) prog_12_method_62_code (4 : Nat) (Option.none : Option Jvm.ClassFile.FieldType)) ∈ ia_T := ia_in8 (List.mem_of_getElem? (i := 76) rfl) rfl
set_option maxRecDepth 100000 in
theorem iw_1867 : (Jvm.Cond.methodLink "EngagedToneLaw" (91 : Nat) ({ cls := "EngagedToneModel", name := "ahead", desc := "(III)I" } : Jvm.MethodName)) ∈ ia_T := ia_in8 (List.mem_of_getElem? (i := 77) rfl) rfl
set_option maxRecDepth 100000 in
theorem iw_1868 : (Jvm.Cond.instanceMethod ({ cls := "EngagedToneModel", name := "ahead", desc := "(III)I" } : Jvm.MethodName)) ∈ ia_T := ia_in8 (List.mem_of_getElem? (i := 78) rfl) rfl
set_option maxRecDepth 100000 in
theorem iw_1869 : (Jvm.Cond.selects "EngagedToneModel" ({ cls := "EngagedToneModel", name := "ahead", desc := "(III)I" } : Jvm.MethodName) ({ cls := "EngagedToneModel", name := "ahead", desc := "(III)I" } : Jvm.MethodName)) ∈ ia_T := ia_in8 (List.mem_of_getElem? (i := 79) rfl) rfl
set_option maxRecDepth 100000 in
theorem iw_1870 : (Jvm.Cond.code ({ cls := "EngagedToneModel", name := "ahead", desc := "(III)I" } : Jvm.MethodName) prog_12_method_78_code (4 : Nat) (Option.some Jvm.ClassFile.FieldType.int)) ∈ ia_T := ia_in8 (List.mem_of_getElem? (i := 80) rfl) rfl
set_option maxRecDepth 100000 in
theorem iw_1871 : (Jvm.Cond.methodLink "EngagedToneModel" (441 : Nat) ({ cls := "EngagedToneModel", name := "runs", desc := "(I)V" } : Jvm.MethodName)) ∈ ia_T := ia_in8 (List.mem_of_getElem? (i := 81) rfl) rfl
set_option maxRecDepth 100000 in
theorem iw_1873 : (Jvm.Cond.instanceMethod ({ cls := "EngagedToneModel", name := "runs", desc := "(I)V" } : Jvm.MethodName)) ∈ ia_T := ia_in8 (List.mem_of_getElem? (i := 83) rfl) rfl
set_option maxRecDepth 100000 in
theorem iw_1874 : (Jvm.Cond.code ({ cls := "EngagedToneModel", name := "runs", desc := "(I)V" } : Jvm.MethodName) prog_12_method_65_code (2 : Nat) (Option.none : Option Jvm.ClassFile.FieldType)) ∈ ia_T := ia_in8 (List.mem_of_getElem? (i := 84) rfl) rfl
set_option maxRecDepth 100000 in
theorem iw_1875 : (Jvm.Cond.methodLink "EngagedToneModel" (422 : Nat) ({ cls := "EngagedToneModel", name := "goesOn", desc := "(I)V" } : Jvm.MethodName)) ∈ ia_T := ia_in8 (List.mem_of_getElem? (i := 85) rfl) rfl
set_option maxRecDepth 100000 in
theorem iw_1877 : (Jvm.Cond.instanceMethod ({ cls := "EngagedToneModel", name := "goesOn", desc := "(I)V" } : Jvm.MethodName)) ∈ ia_T := ia_in8 (List.mem_of_getElem? (i := 87) rfl) rfl
set_option maxRecDepth 100000 in
theorem iw_1878 : (Jvm.Cond.code ({ cls := "EngagedToneModel", name := "goesOn", desc := "(I)V" } : Jvm.MethodName) prog_12_method_64_code (3 : Nat) (Option.none : Option Jvm.ClassFile.FieldType)) ∈ ia_T := ia_in8 (List.mem_of_getElem? (i := 88) rfl) rfl
set_option maxRecDepth 100000 in
theorem iw_1879 : (Jvm.Cond.methodLink "EngagedToneModel" (444 : Nat) ({ cls := "EngagedToneModel", name := "gotThrough", desc := "(I)I" } : Jvm.MethodName)) ∈ ia_T := ia_in8 (List.mem_of_getElem? (i := 89) rfl) rfl
set_option maxRecDepth 100000 in
theorem iw_1881 : (Jvm.Cond.instanceMethod ({ cls := "EngagedToneModel", name := "gotThrough", desc := "(I)I" } : Jvm.MethodName)) ∈ ia_T := ia_in8 (List.mem_of_getElem? (i := 91) rfl) rfl
set_option maxRecDepth 100000 in
theorem iw_1882 : (Jvm.Cond.code ({ cls := "EngagedToneModel", name := "gotThrough", desc := "(I)I" } : Jvm.MethodName) prog_12_method_66_code (2 : Nat) (Option.some Jvm.ClassFile.FieldType.int)) ∈ ia_T := ia_in8 (List.mem_of_getElem? (i := 92) rfl) rfl
set_option maxRecDepth 100000 in
theorem iw_1883 : (Jvm.Cond.methodLink "EngagedToneLaw" (95 : Nat) ({ cls := "EngagedToneModel", name := "through", desc := "(I)I" } : Jvm.MethodName)) ∈ ia_T := ia_in8 (List.mem_of_getElem? (i := 93) rfl) rfl
set_option maxRecDepth 100000 in
theorem iw_1884 : (Jvm.Cond.instanceMethod ({ cls := "EngagedToneModel", name := "through", desc := "(I)I" } : Jvm.MethodName)) ∈ ia_T := ia_in8 (List.mem_of_getElem? (i := 94) rfl) rfl
set_option maxRecDepth 100000 in
theorem iw_1885 : (Jvm.Cond.selects "EngagedToneModel" ({ cls := "EngagedToneModel", name := "through", desc := "(I)I" } : Jvm.MethodName) ({ cls := "EngagedToneModel", name := "through", desc := "(I)I" } : Jvm.MethodName)) ∈ ia_T := ia_in8 (List.mem_of_getElem? (i := 95) rfl) rfl
set_option maxRecDepth 100000 in
theorem iw_1886 : (Jvm.Cond.code ({ cls := "EngagedToneModel", name := "through", desc := "(I)I" } : Jvm.MethodName) prog_12_method_81_code (2 : Nat) (Option.some Jvm.ClassFile.FieldType.int)) ∈ ia_T := ia_in8 (List.mem_of_getElem? (i := 96) rfl) rfl
set_option maxRecDepth 100000 in
theorem iw_1887 : (Jvm.Cond.methodLink "EngagedToneModel" (447 : Nat) ({ cls := "EngagedToneModel", name := "isThrough", desc := "(I)Z" } : Jvm.MethodName)) ∈ ia_T := ia_in8 (List.mem_of_getElem? (i := 97) rfl) rfl
set_option maxRecDepth 100000 in
theorem iw_1888 : (Jvm.Cond.static ({ cls := "EngagedToneModel", name := "isThrough", desc := "(I)Z" } : Jvm.MethodName)) ∈ ia_T := ia_in8 (List.mem_of_getElem? (i := 98) rfl) rfl
set_option maxRecDepth 100000 in
theorem iw_1889 : (Jvm.Cond.code ({ cls := "EngagedToneModel", name := "isThrough", desc := "(I)Z" } : Jvm.MethodName) prog_12_method_79_code (1 : Nat) (Option.some Jvm.ClassFile.FieldType.boolean)) ∈ ia_T := ia_in8 (List.mem_of_getElem? (i := 99) rfl) rfl
set_option maxRecDepth 100000 in
theorem iw_1890 : (Jvm.Cond.methodLink "EngagedToneModel" (450 : Nat) ({ cls := "EngagedToneModel", name := "throughIn", desc := "(I)I" } : Jvm.MethodName)) ∈ ia_T := ia_in8 (List.mem_of_getElem? (i := 100) rfl) rfl
set_option maxRecDepth 100000 in
theorem iw_1892 : (Jvm.Cond.instanceMethod ({ cls := "EngagedToneModel", name := "throughIn", desc := "(I)I" } : Jvm.MethodName)) ∈ ia_T := ia_in8 (List.mem_of_getElem? (i := 102) rfl) rfl
set_option maxRecDepth 100000 in
theorem iw_1893 : (Jvm.Cond.code ({ cls := "EngagedToneModel", name := "throughIn", desc := "(I)I" } : Jvm.MethodName) prog_12_method_80_code (3 : Nat) (Option.some Jvm.ClassFile.FieldType.int)) ∈ ia_T := ia_in8 (List.mem_of_getElem? (i := 103) rfl) rfl
set_option maxRecDepth 100000 in
theorem iw_1894 : (Jvm.Cond.methodLink "EngagedToneLaw" (99 : Nat) ({ cls := "EngagedToneModel", name := "when", desc := "(II)I" } : Jvm.MethodName)) ∈ ia_T := ia_in8 (List.mem_of_getElem? (i := 104) rfl) rfl
set_option maxRecDepth 100000 in
theorem iw_1895 : (Jvm.Cond.instanceMethod ({ cls := "EngagedToneModel", name := "when", desc := "(II)I" } : Jvm.MethodName)) ∈ ia_T := ia_in8 (List.mem_of_getElem? (i := 105) rfl) rfl
set_option maxRecDepth 100000 in
theorem iw_1896 : (Jvm.Cond.selects "EngagedToneModel" ({ cls := "EngagedToneModel", name := "when", desc := "(II)I" } : Jvm.MethodName) ({ cls := "EngagedToneModel", name := "when", desc := "(II)I" } : Jvm.MethodName)) ∈ ia_T := ia_in8 (List.mem_of_getElem? (i := 106) rfl) rfl
set_option maxRecDepth 100000 in
theorem iw_1897 : (Jvm.Cond.code ({ cls := "EngagedToneModel", name := "when", desc := "(II)I" } : Jvm.MethodName) prog_12_method_82_code (8 : Nat) (Option.some Jvm.ClassFile.FieldType.int)) ∈ ia_T := ia_in8 (List.mem_of_getElem? (i := 107) rfl) rfl
set_option maxRecDepth 100000 in
theorem iw_1898 : (Jvm.Cond.methodLink "EngagedToneLaw" (103 : Nat) ({ cls := "EngagedToneModel", name := "lines", desc := "()I" } : Jvm.MethodName)) ∈ ia_T := ia_in8 (List.mem_of_getElem? (i := 108) rfl) rfl
set_option maxRecDepth 100000 in
theorem iw_1899 : (Jvm.Cond.instanceMethod ({ cls := "EngagedToneModel", name := "lines", desc := "()I" } : Jvm.MethodName)) ∈ ia_T := ia_in8 (List.mem_of_getElem? (i := 109) rfl) rfl
set_option maxRecDepth 100000 in
theorem iw_1900 : (Jvm.Cond.selects "EngagedToneModel" ({ cls := "EngagedToneModel", name := "lines", desc := "()I" } : Jvm.MethodName) ({ cls := "EngagedToneModel", name := "lines", desc := "()I" } : Jvm.MethodName)) ∈ ia_T := ia_in8 (List.mem_of_getElem? (i := 110) rfl) rfl
set_option maxRecDepth 100000 in
theorem iw_1901 : (Jvm.Cond.code ({ cls := "EngagedToneModel", name := "lines", desc := "()I" } : Jvm.MethodName) prog_12_method_83_code (3 : Nat) (Option.some Jvm.ClassFile.FieldType.int)) ∈ ia_T := ia_in8 (List.mem_of_getElem? (i := 111) rfl) rfl
set_option maxRecDepth 100000 in
theorem iw_1902 : (Jvm.Cond.methodLink "EngagedToneLaw" (107 : Nat) ({ cls := "EngagedToneModel", name := "stop", desc := "(I)I" } : Jvm.MethodName)) ∈ ia_T := ia_in8 (List.mem_of_getElem? (i := 112) rfl) rfl
set_option maxRecDepth 100000 in
theorem iw_1903 : (Jvm.Cond.instanceMethod ({ cls := "EngagedToneModel", name := "stop", desc := "(I)I" } : Jvm.MethodName)) ∈ ia_T := ia_in8 (List.mem_of_getElem? (i := 113) rfl) rfl
set_option maxRecDepth 100000 in
theorem iw_1904 : (Jvm.Cond.selects "EngagedToneModel" ({ cls := "EngagedToneModel", name := "stop", desc := "(I)I" } : Jvm.MethodName) ({ cls := "EngagedToneModel", name := "stop", desc := "(I)I" } : Jvm.MethodName)) ∈ ia_T := ia_in8 (List.mem_of_getElem? (i := 114) rfl) rfl
set_option maxRecDepth 100000 in
theorem iw_1905 : (Jvm.Cond.code ({ cls := "EngagedToneModel", name := "stop", desc := "(I)I" } : Jvm.MethodName) prog_12_method_85_code (6 : Nat) (Option.some Jvm.ClassFile.FieldType.int)) ∈ ia_T := ia_in8 (List.mem_of_getElem? (i := 115) rfl) rfl
set_option maxRecDepth 100000 in
theorem iw_1906 : (Jvm.Cond.methodLink "EngagedToneModel" (453 : Nat) ({ cls := "EngagedToneModel", name := "bitsOf", desc := "(I)I" } : Jvm.MethodName)) ∈ ia_T := ia_in8 (List.mem_of_getElem? (i := 116) rfl) rfl
set_option maxRecDepth 100000 in
theorem iw_1907 : (Jvm.Cond.static ({ cls := "EngagedToneModel", name := "bitsOf", desc := "(I)I" } : Jvm.MethodName)) ∈ ia_T := ia_in8 (List.mem_of_getElem? (i := 117) rfl) rfl
set_option maxRecDepth 100000 in
theorem iw_1908 : (Jvm.Cond.code ({ cls := "EngagedToneModel", name := "bitsOf", desc := "(I)I" } : Jvm.MethodName) prog_12_method_84_code (3 : Nat) (Option.some Jvm.ClassFile.FieldType.int)) ∈ ia_T := ia_in8 (List.mem_of_getElem? (i := 118) rfl) rfl
set_option maxRecDepth 100000 in
theorem iw_1909 : (Jvm.Cond.methodLink "EngagedToneLaw" (111 : Nat) ({ cls := "EngagedToneModel", name := "shift", desc := "(I)I" } : Jvm.MethodName)) ∈ ia_T := ia_in8 (List.mem_of_getElem? (i := 119) rfl) rfl
set_option maxRecDepth 100000 in
theorem iw_1910 : (Jvm.Cond.instanceMethod ({ cls := "EngagedToneModel", name := "shift", desc := "(I)I" } : Jvm.MethodName)) ∈ ia_T := ia_in8 (List.mem_of_getElem? (i := 120) rfl) rfl
set_option maxRecDepth 100000 in
theorem iw_1911 : (Jvm.Cond.selects "EngagedToneModel" ({ cls := "EngagedToneModel", name := "shift", desc := "(I)I" } : Jvm.MethodName) ({ cls := "EngagedToneModel", name := "shift", desc := "(I)I" } : Jvm.MethodName)) ∈ ia_T := ia_in8 (List.mem_of_getElem? (i := 121) rfl) rfl
set_option maxRecDepth 100000 in
theorem iw_1912 : (Jvm.Cond.code ({ cls := "EngagedToneModel", name := "shift", desc := "(I)I" } : Jvm.MethodName) prog_12_method_87_code (2 : Nat) (Option.some Jvm.ClassFile.FieldType.int)) ∈ ia_T := ia_in8 (List.mem_of_getElem? (i := 122) rfl) rfl
set_option maxRecDepth 100000 in
theorem iw_1913 : (Jvm.Cond.methodLink "EngagedToneModel" (465 : Nat) ({ cls := "EngagedToneModel", name := "layShift", desc := "()V" } : Jvm.MethodName)) ∈ ia_T := ia_in8 (List.mem_of_getElem? (i := 123) rfl) rfl
set_option maxRecDepth 100000 in
theorem iw_1915 : (Jvm.Cond.instanceMethod ({ cls := "EngagedToneModel", name := "layShift", desc := "()V" } : Jvm.MethodName)) ∈ ia_T := ia_in8 (List.mem_of_getElem? (i := 125) rfl) rfl
set_option maxRecDepth 100000 in
theorem iw_1916 : (Jvm.Cond.code ({ cls := "EngagedToneModel", name := "layShift", desc := "()V" } : Jvm.MethodName) prog_12_method_86_code (3 : Nat) (Option.none : Option Jvm.ClassFile.FieldType)) ∈ ia_T := ia_in8 (List.mem_of_getElem? (i := 126) rfl) rfl
set_option maxRecDepth 100000 in
theorem iw_1917 : (Jvm.Cond.methodLink "EngagedToneLaw" (115 : Nat) ({ cls := "EngagedToneModel", name := "rests", desc := "(II)I" } : Jvm.MethodName)) ∈ ia_T := ia_in8 (List.mem_of_getElem? (i := 127) rfl) rfl
set_option maxRecDepth 100000 in
theorem iw_1918 : (Jvm.Cond.instanceMethod ({ cls := "EngagedToneModel", name := "rests", desc := "(II)I" } : Jvm.MethodName)) ∈ ia_T := ia_in8 (List.mem_of_getElem? (i := 128) rfl) rfl
set_option maxRecDepth 100000 in
theorem iw_1919 : (Jvm.Cond.selects "EngagedToneModel" ({ cls := "EngagedToneModel", name := "rests", desc := "(II)I" } : Jvm.MethodName) ({ cls := "EngagedToneModel", name := "rests", desc := "(II)I" } : Jvm.MethodName)) ∈ ia_T := ia_in8 (List.mem_of_getElem? (i := 129) rfl) rfl
set_option maxRecDepth 100000 in
theorem iw_1920 : (Jvm.Cond.code ({ cls := "EngagedToneModel", name := "rests", desc := "(II)I" } : Jvm.MethodName) prog_12_method_92_code (3 : Nat) (Option.some Jvm.ClassFile.FieldType.int)) ∈ ia_T := ia_in8 (List.mem_of_getElem? (i := 130) rfl) rfl
set_option maxRecDepth 100000 in
theorem iw_1921 : (Jvm.Cond.methodLink "EngagedToneModel" (476 : Nat) ({ cls := "EngagedToneModel", name := "areTwo", desc := "(II)Z" } : Jvm.MethodName)) ∈ ia_T := ia_in8 (List.mem_of_getElem? (i := 131) rfl) rfl
set_option maxRecDepth 100000 in
theorem iw_1923 : (Jvm.Cond.instanceMethod ({ cls := "EngagedToneModel", name := "areTwo", desc := "(II)Z" } : Jvm.MethodName)) ∈ ia_T := ia_in8 (List.mem_of_getElem? (i := 133) rfl) rfl
set_option maxRecDepth 100000 in
theorem iw_1924 : (Jvm.Cond.code ({ cls := "EngagedToneModel", name := "areTwo", desc := "(II)Z" } : Jvm.MethodName) prog_12_method_91_code (3 : Nat) (Option.some Jvm.ClassFile.FieldType.boolean)) ∈ ia_T := ia_in8 (List.mem_of_getElem? (i := 134) rfl) rfl
set_option maxRecDepth 100000 in
theorem iw_1925 : (Jvm.Cond.methodLink "EngagedToneModel" (479 : Nat) ({ cls := "EngagedToneModel", name := "restOf", desc := "(III)I" } : Jvm.MethodName)) ∈ ia_T := ia_in8 (List.mem_of_getElem? (i := 135) rfl) rfl
set_option maxRecDepth 100000 in
theorem iw_1927 : (Jvm.Cond.instanceMethod ({ cls := "EngagedToneModel", name := "restOf", desc := "(III)I" } : Jvm.MethodName)) ∈ ia_T := ia_in8 (List.mem_of_getElem? (i := 137) rfl) rfl
set_option maxRecDepth 100000 in
theorem iw_1928 : (Jvm.Cond.code ({ cls := "EngagedToneModel", name := "restOf", desc := "(III)I" } : Jvm.MethodName) prog_12_method_90_code (6 : Nat) (Option.some Jvm.ClassFile.FieldType.int)) ∈ ia_T := ia_in8 (List.mem_of_getElem? (i := 138) rfl) rfl
set_option maxRecDepth 100000 in
theorem iw_1929 : (Jvm.Cond.methodLink "EngagedToneModel" (472 : Nat) ({ cls := "EngagedToneModel", name := "isRest", desc := "(III)Z" } : Jvm.MethodName)) ∈ ia_T := ia_in8 (List.mem_of_getElem? (i := 139) rfl) rfl
set_option maxRecDepth 100000 in
theorem iw_1931 : (Jvm.Cond.instanceMethod ({ cls := "EngagedToneModel", name := "isRest", desc := "(III)Z" } : Jvm.MethodName)) ∈ ia_T := ia_in8 (List.mem_of_getElem? (i := 141) rfl) rfl
set_option maxRecDepth 100000 in
theorem iw_1932 : (Jvm.Cond.code ({ cls := "EngagedToneModel", name := "isRest", desc := "(III)Z" } : Jvm.MethodName) prog_12_method_89_code (6 : Nat) (Option.some Jvm.ClassFile.FieldType.boolean)) ∈ ia_T := ia_in8 (List.mem_of_getElem? (i := 142) rfl) rfl
set_option maxRecDepth 100000 in
theorem iw_1933 : (Jvm.Cond.methodLink "EngagedToneModel" (468 : Nat) ({ cls := "EngagedToneModel", name := "hasOf", desc := "(III)I" } : Jvm.MethodName)) ∈ ia_T := ia_in8 (List.mem_of_getElem? (i := 143) rfl) rfl
set_option maxRecDepth 100000 in
theorem iw_1935 : (Jvm.Cond.instanceMethod ({ cls := "EngagedToneModel", name := "hasOf", desc := "(III)I" } : Jvm.MethodName)) ∈ ia_T := ia_in8 (List.mem_of_getElem? (i := 145) rfl) rfl
set_option maxRecDepth 100000 in
theorem iw_1936 : (Jvm.Cond.code ({ cls := "EngagedToneModel", name := "hasOf", desc := "(III)I" } : Jvm.MethodName) prog_12_method_88_code (6 : Nat) (Option.some Jvm.ClassFile.FieldType.int)) ∈ ia_T := ia_in8 (List.mem_of_getElem? (i := 146) rfl) rfl
set_option maxRecDepth 100000 in
theorem iw_1937 : (Jvm.Cond.methodLink "EngagedToneLaw" (119 : Nat) ({ cls := "EngagedToneModel", name := "rest", desc := "(III)I" } : Jvm.MethodName)) ∈ ia_T := ia_in8 (List.mem_of_getElem? (i := 147) rfl) rfl
set_option maxRecDepth 100000 in
theorem iw_1938 : (Jvm.Cond.instanceMethod ({ cls := "EngagedToneModel", name := "rest", desc := "(III)I" } : Jvm.MethodName)) ∈ ia_T := ia_in8 (List.mem_of_getElem? (i := 148) rfl) rfl
set_option maxRecDepth 100000 in
theorem iw_1939 : (Jvm.Cond.selects "EngagedToneModel" ({ cls := "EngagedToneModel", name := "rest", desc := "(III)I" } : Jvm.MethodName) ({ cls := "EngagedToneModel", name := "rest", desc := "(III)I" } : Jvm.MethodName)) ∈ ia_T := ia_in8 (List.mem_of_getElem? (i := 149) rfl) rfl
set_option maxRecDepth 100000 in
theorem iw_1940 : (Jvm.Cond.code ({ cls := "EngagedToneModel", name := "rest", desc := "(III)I" } : Jvm.MethodName) prog_12_method_93_code (4 : Nat) (Option.some Jvm.ClassFile.FieldType.int)) ∈ ia_T := ia_in8 (List.mem_of_getElem? (i := 150) rfl) rfl
set_option maxRecDepth 100000 in
theorem iw_1941 : (Jvm.Cond.methodLink "EngagedToneLaw" (123 : Nat) ({ cls := "EngagedToneModel", name := "auction", desc := "(II)I" } : Jvm.MethodName)) ∈ ia_T := ia_in8 (List.mem_of_getElem? (i := 151) rfl) rfl
set_option maxRecDepth 100000 in
theorem iw_1942 : (Jvm.Cond.instanceMethod ({ cls := "EngagedToneModel", name := "auction", desc := "(II)I" } : Jvm.MethodName)) ∈ ia_T := ia_in8 (List.mem_of_getElem? (i := 152) rfl) rfl
set_option maxRecDepth 100000 in
theorem iw_1943 : (Jvm.Cond.selects "EngagedToneModel" ({ cls := "EngagedToneModel", name := "auction", desc := "(II)I" } : Jvm.MethodName) ({ cls := "EngagedToneModel", name := "auction", desc := "(II)I" } : Jvm.MethodName)) ∈ ia_T := ia_in8 (List.mem_of_getElem? (i := 153) rfl) rfl
set_option maxRecDepth 100000 in
theorem iw_1944 : (Jvm.Cond.code ({ cls := "EngagedToneModel", name := "auction", desc := "(II)I" } : Jvm.MethodName) prog_12_method_95_code (6 : Nat) (Option.some Jvm.ClassFile.FieldType.int)) ∈ ia_T := ia_in8 (List.mem_of_getElem? (i := 154) rfl) rfl
set_option maxRecDepth 100000 in
theorem iw_1945 : (Jvm.Cond.methodLink "EngagedToneModel" (482 : Nat) ({ cls := "EngagedToneModel", name := "bidOf", desc := "(I)I" } : Jvm.MethodName)) ∈ ia_T := ia_in8 (List.mem_of_getElem? (i := 155) rfl) rfl
set_option maxRecDepth 100000 in
theorem iw_1947 : (Jvm.Cond.instanceMethod ({ cls := "EngagedToneModel", name := "bidOf", desc := "(I)I" } : Jvm.MethodName)) ∈ ia_T := ia_in8 (List.mem_of_getElem? (i := 157) rfl) rfl
set_option maxRecDepth 100000 in
theorem iw_1948 : (Jvm.Cond.code ({ cls := "EngagedToneModel", name := "bidOf", desc := "(I)I" } : Jvm.MethodName) prog_12_method_94_code (2 : Nat) (Option.some Jvm.ClassFile.FieldType.int)) ∈ ia_T := ia_in8 (List.mem_of_getElem? (i := 158) rfl) rfl
set_option maxRecDepth 100000 in
theorem iw_1949 : (Jvm.Cond.methodLink "EngagedToneModel" (485 : Nat) ({ cls := "java/lang/Math", name := "max", desc := "(II)I" } : Jvm.MethodName)) ∈ ia_T := ia_in8 (List.mem_of_getElem? (i := 159) rfl) rfl
set_option maxRecDepth 100000 in
theorem iw_1950 : (Jvm.Cond.methodLink "EngagedToneLaw" (127 : Nat) ({ cls := "EngagedToneModel", name := "part", desc := "(III)I" } : Jvm.MethodName)) ∈ ia_T := ia_in8 (List.mem_of_getElem? (i := 160) rfl) rfl
set_option maxRecDepth 100000 in
theorem iw_1951 : (Jvm.Cond.instanceMethod ({ cls := "EngagedToneModel", name := "part", desc := "(III)I" } : Jvm.MethodName)) ∈ ia_T := ia_in8 (List.mem_of_getElem? (i := 161) rfl) rfl
set_option maxRecDepth 100000 in
theorem iw_1952 : (Jvm.Cond.selects "EngagedToneModel" ({ cls := "EngagedToneModel", name := "part", desc := "(III)I" } : Jvm.MethodName) ({ cls := "EngagedToneModel", name := "part", desc := "(III)I" } : Jvm.MethodName)) ∈ ia_T := ia_in8 (List.mem_of_getElem? (i := 162) rfl) rfl
set_option maxRecDepth 100000 in
theorem iw_1953 : (Jvm.Cond.code ({ cls := "EngagedToneModel", name := "part", desc := "(III)I" } : Jvm.MethodName) prog_12_method_97_code (6 : Nat) (Option.some Jvm.ClassFile.FieldType.int)) ∈ ia_T := ia_in8 (List.mem_of_getElem? (i := 163) rfl) rfl
set_option maxRecDepth 100000 in
theorem iw_1954 : (Jvm.Cond.methodLink "EngagedToneModel" (487 : Nat) ({ cls := "EngagedToneModel", name := "common", desc := "(II)I" } : Jvm.MethodName)) ∈ ia_T := ia_in8 (List.mem_of_getElem? (i := 164) rfl) rfl
set_option maxRecDepth 100000 in
theorem iw_1955 : (Jvm.Cond.static ({ cls := "EngagedToneModel", name := "common", desc := "(II)I" } : Jvm.MethodName)) ∈ ia_T := ia_in8 (List.mem_of_getElem? (i := 165) rfl) rfl
set_option maxRecDepth 100000 in
theorem iw_1956 : (Jvm.Cond.code ({ cls := "EngagedToneModel", name := "common", desc := "(II)I" } : Jvm.MethodName) prog_12_method_96_code (5 : Nat) (Option.some Jvm.ClassFile.FieldType.int)) ∈ ia_T := ia_in8 (List.mem_of_getElem? (i := 166) rfl) rfl
set_option maxRecDepth 100000 in
theorem iw_1957 : (Jvm.Cond.methodLink "EngagedToneLaw" (131 : Nat) ({ cls := "EngagedToneModel", name := "round", desc := "(II)I" } : Jvm.MethodName)) ∈ ia_T := ia_in8 (List.mem_of_getElem? (i := 167) rfl) rfl
set_option maxRecDepth 100000 in
theorem iw_1958 : (Jvm.Cond.instanceMethod ({ cls := "EngagedToneModel", name := "round", desc := "(II)I" } : Jvm.MethodName)) ∈ ia_T := ia_in8 (List.mem_of_getElem? (i := 168) rfl) rfl
set_option maxRecDepth 100000 in
theorem iw_1959 : (Jvm.Cond.selects "EngagedToneModel" ({ cls := "EngagedToneModel", name := "round", desc := "(II)I" } : Jvm.MethodName) ({ cls := "EngagedToneModel", name := "round", desc := "(II)I" } : Jvm.MethodName)) ∈ ia_T := ia_in8 (List.mem_of_getElem? (i := 169) rfl) rfl
set_option maxRecDepth 100000 in
theorem iw_1960 : (Jvm.Cond.code ({ cls := "EngagedToneModel", name := "round", desc := "(II)I" } : Jvm.MethodName) prog_12_method_99_code (6 : Nat) (Option.some Jvm.ClassFile.FieldType.int)) ∈ ia_T := ia_in8 (List.mem_of_getElem? (i := 170) rfl) rfl
set_option maxRecDepth 100000 in
theorem iw_1961 : (Jvm.Cond.methodLink "EngagedToneModel" (490 : Nat) ({ cls := "EngagedToneModel", name := "haveSpoken", desc := "(II)Z" } : Jvm.MethodName)) ∈ ia_T := ia_in8 (List.mem_of_getElem? (i := 171) rfl) rfl
set_option maxRecDepth 100000 in
theorem iw_1963 : (Jvm.Cond.instanceMethod ({ cls := "EngagedToneModel", name := "haveSpoken", desc := "(II)Z" } : Jvm.MethodName)) ∈ ia_T := ia_in8 (List.mem_of_getElem? (i := 173) rfl) rfl
set_option maxRecDepth 100000 in
theorem iw_1964 : (Jvm.Cond.code ({ cls := "EngagedToneModel", name := "haveSpoken", desc := "(II)Z" } : Jvm.MethodName) prog_12_method_98_code (4 : Nat) (Option.some Jvm.ClassFile.FieldType.boolean)) ∈ ia_T := ia_in8 (List.mem_of_getElem? (i := 174) rfl) rfl
set_option maxRecDepth 100000 in
theorem iw_1965 : (Jvm.Cond.methodLink "EngagedToneLaw" (135 : Nat) ({ cls := "EngagedToneModel", name := "busiest", desc := "()I" } : Jvm.MethodName)) ∈ ia_T := ia_in8 (List.mem_of_getElem? (i := 175) rfl) rfl
set_option maxRecDepth 100000 in
theorem iw_1966 : (Jvm.Cond.instanceMethod ({ cls := "EngagedToneModel", name := "busiest", desc := "()I" } : Jvm.MethodName)) ∈ ia_T := ia_in8 (List.mem_of_getElem? (i := 176) rfl) rfl
set_option maxRecDepth 100000 in
theorem iw_1967 : (Jvm.Cond.selects "EngagedToneModel" ({ cls := "EngagedToneModel", name := "busiest", desc := "()I" } : Jvm.MethodName) ({ cls := "EngagedToneModel", name := "busiest", desc := "()I" } : Jvm.MethodName)) ∈ ia_T := ia_in8 (List.mem_of_getElem? (i := 177) rfl) rfl
set_option maxRecDepth 100000 in
theorem iw_1968 : (Jvm.Cond.code ({ cls := "EngagedToneModel", name := "busiest", desc := "()I" } : Jvm.MethodName) prog_12_method_100_code (3 : Nat) (Option.some Jvm.ClassFile.FieldType.int)) ∈ ia_T := ia_in8 (List.mem_of_getElem? (i := 178) rfl) rfl
set_option maxRecDepth 100000 in
theorem iw_1969 : (Jvm.Cond.methodLink "EngagedToneLaw" (139 : Nat) ({ cls := "EngagedToneModel", name := "hard", desc := "(I)I" } : Jvm.MethodName)) ∈ ia_T := ia_in8 (List.mem_of_getElem? (i := 179) rfl) rfl
set_option maxRecDepth 100000 in
theorem iw_1970 : (Jvm.Cond.instanceMethod ({ cls := "EngagedToneModel", name := "hard", desc := "(I)I" } : Jvm.MethodName)) ∈ ia_T := ia_in8 (List.mem_of_getElem? (i := 180) rfl) rfl
set_option maxRecDepth 100000 in
theorem iw_1971 : (Jvm.Cond.selects "EngagedToneModel" ({ cls := "EngagedToneModel", name := "hard", desc := "(I)I" } : Jvm.MethodName) ({ cls := "EngagedToneModel", name := "hard", desc := "(I)I" } : Jvm.MethodName)) ∈ ia_T := ia_in8 (List.mem_of_getElem? (i := 181) rfl) rfl
set_option maxRecDepth 100000 in
theorem iw_1972 : (Jvm.Cond.code ({ cls := "EngagedToneModel", name := "hard", desc := "(I)I" } : Jvm.MethodName) prog_12_method_101_code (4 : Nat) (Option.some Jvm.ClassFile.FieldType.int)) ∈ ia_T := ia_in8 (List.mem_of_getElem? (i := 182) rfl) rfl
set_option maxRecDepth 100000 in
theorem iw_1973 : (Jvm.Cond.methodLink "EngagedToneLaw" (144 : Nat) ({ cls := "EngagedToneModel", name := "hear", desc := "(IIZ)I" } : Jvm.MethodName)) ∈ ia_T := ia_in8 (List.mem_of_getElem? (i := 183) rfl) rfl
set_option maxRecDepth 100000 in
theorem iw_1974 : (Jvm.Cond.instanceMethod ({ cls := "EngagedToneModel", name := "hear", desc := "(IIZ)I" } : Jvm.MethodName)) ∈ ia_T := ia_in8 (List.mem_of_getElem? (i := 184) rfl) rfl
set_option maxRecDepth 100000 in
theorem iw_1975 : (Jvm.Cond.selects "EngagedToneModel" ({ cls := "EngagedToneModel", name := "hear", desc := "(IIZ)I" } : Jvm.MethodName) ({ cls := "EngagedToneModel", name := "hear", desc := "(IIZ)I" } : Jvm.MethodName)) ∈ ia_T := ia_in8 (List.mem_of_getElem? (i := 185) rfl) rfl
set_option maxRecDepth 100000 in
theorem iw_1976 : (Jvm.Cond.code ({ cls := "EngagedToneModel", name := "hear", desc := "(IIZ)I" } : Jvm.MethodName) prog_12_method_102_code (4 : Nat) (Option.some Jvm.ClassFile.FieldType.int)) ∈ ia_T := ia_in8 (List.mem_of_getElem? (i := 186) rfl) rfl
set_option maxRecDepth 100000 in
theorem iw_1977 : (Jvm.Cond.methodLink "EngagedToneLaw" (148 : Nat) ({ cls := "EngagedToneModel", name := "out", desc := "(I)I" } : Jvm.MethodName)) ∈ ia_T := ia_in8 (List.mem_of_getElem? (i := 187) rfl) rfl
set_option maxRecDepth 100000 in
theorem iw_1978 : (Jvm.Cond.instanceMethod ({ cls := "EngagedToneModel", name := "out", desc := "(I)I" } : Jvm.MethodName)) ∈ ia_T := ia_in8 (List.mem_of_getElem? (i := 188) rfl) rfl
set_option maxRecDepth 100000 in
theorem iw_1979 : (Jvm.Cond.selects "EngagedToneModel" ({ cls := "EngagedToneModel", name := "out", desc := "(I)I" } : Jvm.MethodName) ({ cls := "EngagedToneModel", name := "out", desc := "(I)I" } : Jvm.MethodName)) ∈ ia_T := ia_in8 (List.mem_of_getElem? (i := 189) rfl) rfl
set_option maxRecDepth 100000 in
theorem iw_1980 : (Jvm.Cond.code ({ cls := "EngagedToneModel", name := "out", desc := "(I)I" } : Jvm.MethodName) prog_12_method_103_code (2 : Nat) (Option.some Jvm.ClassFile.FieldType.int)) ∈ ia_T := ia_in8 (List.mem_of_getElem? (i := 190) rfl) rfl
set_option maxRecDepth 100000 in
theorem iw_1981 : (Jvm.Cond.methodLink "EngagedToneLaw" (153 : Nat) ({ cls := "EngagedToneModel", name := "known", desc := "(I)Z" } : Jvm.MethodName)) ∈ ia_T := ia_in8 (List.mem_of_getElem? (i := 191) rfl) rfl
set_option maxRecDepth 100000 in
theorem iw_1982 : (Jvm.Cond.instanceMethod ({ cls := "EngagedToneModel", name := "known", desc := "(I)Z" } : Jvm.MethodName)) ∈ ia_T := ia_in8 (List.mem_of_getElem? (i := 192) rfl) rfl
set_option maxRecDepth 100000 in
theorem iw_1983 : (Jvm.Cond.selects "EngagedToneModel" ({ cls := "EngagedToneModel", name := "known", desc := "(I)Z" } : Jvm.MethodName) ({ cls := "EngagedToneModel", name := "known", desc := "(I)Z" } : Jvm.MethodName)) ∈ ia_T := ia_in8 (List.mem_of_getElem? (i := 193) rfl) rfl
set_option maxRecDepth 100000 in
theorem iw_1984 : (Jvm.Cond.code ({ cls := "EngagedToneModel", name := "known", desc := "(I)Z" } : Jvm.MethodName) prog_12_method_104_code (2 : Nat) (Option.some Jvm.ClassFile.FieldType.boolean)) ∈ ia_T := ia_in8 (List.mem_of_getElem? (i := 194) rfl) rfl
set_option maxRecDepth 100000 in
theorem iw_1985 : (Jvm.Cond.methodLink "EngagedToneLaw" (157 : Nat) ({ cls := "EngagedToneModel", name := "spans", desc := "(I)I" } : Jvm.MethodName)) ∈ ia_T := ia_in8 (List.mem_of_getElem? (i := 195) rfl) rfl
set_option maxRecDepth 100000 in
theorem iw_1986 : (Jvm.Cond.instanceMethod ({ cls := "EngagedToneModel", name := "spans", desc := "(I)I" } : Jvm.MethodName)) ∈ ia_T := ia_in8 (List.mem_of_getElem? (i := 196) rfl) rfl
set_option maxRecDepth 100000 in
theorem iw_1987 : (Jvm.Cond.selects "EngagedToneModel" ({ cls := "EngagedToneModel", name := "spans", desc := "(I)I" } : Jvm.MethodName) ({ cls := "EngagedToneModel", name := "spans", desc := "(I)I" } : Jvm.MethodName)) ∈ ia_T := ia_in8 (List.mem_of_getElem? (i := 197) rfl) rfl
set_option maxRecDepth 100000 in
theorem iw_1988 : (Jvm.Cond.code ({ cls := "EngagedToneModel", name := "spans", desc := "(I)I" } : Jvm.MethodName) prog_12_method_108_code (5 : Nat) (Option.some Jvm.ClassFile.FieldType.int)) ∈ ia_T := ia_in8 (List.mem_of_getElem? (i := 198) rfl) rfl
set_option maxRecDepth 100000 in
theorem iw_1989 : (Jvm.Cond.methodLink "EngagedToneModel" (493 : Nat) ({ cls := "EngagedToneModel", name := "knownMany", desc := "()I" } : Jvm.MethodName)) ∈ ia_T := ia_in8 (List.mem_of_getElem? (i := 199) rfl) rfl
set_option maxRecDepth 100000 in
theorem iw_1991 : (Jvm.Cond.instanceMethod ({ cls := "EngagedToneModel", name := "knownMany", desc := "()I" } : Jvm.MethodName)) ∈ ia_T := ia_in8 (List.mem_of_getElem? (i := 201) rfl) rfl
set_option maxRecDepth 100000 in
theorem iw_1992 : (Jvm.Cond.code ({ cls := "EngagedToneModel", name := "knownMany", desc := "()I" } : Jvm.MethodName) prog_12_method_105_code (1 : Nat) (Option.some Jvm.ClassFile.FieldType.int)) ∈ ia_T := ia_in8 (List.mem_of_getElem? (i := 202) rfl) rfl
set_option maxRecDepth 100000 in
theorem iw_1993 : (Jvm.Cond.methodLink "EngagedToneModel" (499 : Nat) ({ cls := "EngagedToneModel", name := "fitsSpan", desc := "(III)Z" } : Jvm.MethodName)) ∈ ia_T := ia_in8 (List.mem_of_getElem? (i := 203) rfl) rfl
set_option maxRecDepth 100000 in
theorem iw_1995 : (Jvm.Cond.instanceMethod ({ cls := "EngagedToneModel", name := "fitsSpan", desc := "(III)Z" } : Jvm.MethodName)) ∈ ia_T := ia_in8 (List.mem_of_getElem? (i := 205) rfl) rfl
set_option maxRecDepth 100000 in
theorem iw_1996 : (Jvm.Cond.code ({ cls := "EngagedToneModel", name := "fitsSpan", desc := "(III)Z" } : Jvm.MethodName) prog_12_method_107_code (5 : Nat) (Option.some Jvm.ClassFile.FieldType.boolean)) ∈ ia_T := ia_in8 (List.mem_of_getElem? (i := 206) rfl) rfl
set_option maxRecDepth 100000 in
theorem iw_1997 : (Jvm.Cond.methodLink "EngagedToneModel" (496 : Nat) ({ cls := "EngagedToneModel", name := "isSo", desc := "(I)Z" } : Jvm.MethodName)) ∈ ia_T := ia_in8 (List.mem_of_getElem? (i := 207) rfl) rfl
set_option maxRecDepth 100000 in
theorem iw_1999 : (Jvm.Cond.instanceMethod ({ cls := "EngagedToneModel", name := "isSo", desc := "(I)Z" } : Jvm.MethodName)) ∈ ia_T := ia_in8 (List.mem_of_getElem? (i := 209) rfl) rfl
set_option maxRecDepth 100000 in
theorem iw_2000 : (Jvm.Cond.code ({ cls := "EngagedToneModel", name := "isSo", desc := "(I)Z" } : Jvm.MethodName) prog_12_method_106_code (3 : Nat) (Option.some Jvm.ClassFile.FieldType.boolean)) ∈ ia_T := ia_in8 (List.mem_of_getElem? (i := 210) rfl) rfl
set_option maxRecDepth 100000 in
theorem iw_2001 : (Jvm.Cond.methodLink "EngagedToneLaw" (161 : Nat) ({ cls := "EngagedToneModel", name := "chance", desc := "(III)I" } : Jvm.MethodName)) ∈ ia_T := ia_in8 (List.mem_of_getElem? (i := 211) rfl) rfl
set_option maxRecDepth 100000 in
theorem iw_2002 : (Jvm.Cond.instanceMethod ({ cls := "EngagedToneModel", name := "chance", desc := "(III)I" } : Jvm.MethodName)) ∈ ia_T := ia_in8 (List.mem_of_getElem? (i := 212) rfl) rfl
set_option maxRecDepth 100000 in
theorem iw_2003 : (Jvm.Cond.selects "EngagedToneModel" ({ cls := "EngagedToneModel", name := "chance", desc := "(III)I" } : Jvm.MethodName) ({ cls := "EngagedToneModel", name := "chance", desc := "(III)I" } : Jvm.MethodName)) ∈ ia_T := ia_in8 (List.mem_of_getElem? (i := 213) rfl) rfl
set_option maxRecDepth 100000 in
theorem iw_2004 : (Jvm.Cond.code ({ cls := "EngagedToneModel", name := "chance", desc := "(III)I" } : Jvm.MethodName) prog_12_method_109_code (6 : Nat) (Option.some Jvm.ClassFile.FieldType.int)) ∈ ia_T := ia_in8 (List.mem_of_getElem? (i := 214) rfl) rfl
set_option maxRecDepth 100000 in
theorem iw_2005 : (Jvm.Cond.methodLink "EngagedToneLaw" (165 : Nat) ({ cls := "EngagedToneModel", name := "tried", desc := "(III)I" } : Jvm.MethodName)) ∈ ia_T := ia_in8 (List.mem_of_getElem? (i := 215) rfl) rfl
set_option maxRecDepth 100000 in
theorem iw_2006 : (Jvm.Cond.instanceMethod ({ cls := "EngagedToneModel", name := "tried", desc := "(III)I" } : Jvm.MethodName)) ∈ ia_T := ia_in8 (List.mem_of_getElem? (i := 216) rfl) rfl
set_option maxRecDepth 100000 in
theorem iw_2007 : (Jvm.Cond.selects "EngagedToneModel" ({ cls := "EngagedToneModel", name := "tried", desc := "(III)I" } : Jvm.MethodName) ({ cls := "EngagedToneModel", name := "tried", desc := "(III)I" } : Jvm.MethodName)) ∈ ia_T := ia_in8 (List.mem_of_getElem? (i := 217) rfl) rfl
set_option maxRecDepth 100000 in
theorem iw_2008 : (Jvm.Cond.code ({ cls := "EngagedToneModel", name := "tried", desc := "(III)I" } : Jvm.MethodName) prog_12_method_110_code (6 : Nat) (Option.some Jvm.ClassFile.FieldType.int)) ∈ ia_T := ia_in8 (List.mem_of_getElem? (i := 218) rfl) rfl
set_option maxRecDepth 100000 in
theorem iw_2009 : (Jvm.Cond.methodLink "EngagedToneLaw" (169 : Nat) ({ cls := "EngagedToneModel", name := "undo", desc := "()I" } : Jvm.MethodName)) ∈ ia_T := ia_in8 (List.mem_of_getElem? (i := 219) rfl) rfl
set_option maxRecDepth 100000 in
theorem iw_2010 : (Jvm.Cond.instanceMethod ({ cls := "EngagedToneModel", name := "undo", desc := "()I" } : Jvm.MethodName)) ∈ ia_T := ia_in8 (List.mem_of_getElem? (i := 220) rfl) rfl
set_option maxRecDepth 100000 in
theorem iw_2011 : (Jvm.Cond.selects "EngagedToneModel" ({ cls := "EngagedToneModel", name := "undo", desc := "()I" } : Jvm.MethodName) ({ cls := "EngagedToneModel", name := "undo", desc := "()I" } : Jvm.MethodName)) ∈ ia_T := ia_in8 (List.mem_of_getElem? (i := 221) rfl) rfl
set_option maxRecDepth 100000 in
theorem iw_2012 : (Jvm.Cond.code ({ cls := "EngagedToneModel", name := "undo", desc := "()I" } : Jvm.MethodName) prog_12_method_111_code (1 : Nat) (Option.some Jvm.ClassFile.FieldType.int)) ∈ ia_T := ia_in8 (List.mem_of_getElem? (i := 222) rfl) rfl
set_option maxRecDepth 100000 in
theorem iw_2013 : (Jvm.Cond.methodLink "EngagedToneLaw" (173 : Nat) ({ cls := "EngagedToneModel", name := "keep", desc := "()I" } : Jvm.MethodName)) ∈ ia_T := ia_in8 (List.mem_of_getElem? (i := 223) rfl) rfl
set_option maxRecDepth 100000 in
theorem iw_2014 : (Jvm.Cond.instanceMethod ({ cls := "EngagedToneModel", name := "keep", desc := "()I" } : Jvm.MethodName)) ∈ ia_T := ia_in8 (List.mem_of_getElem? (i := 224) rfl) rfl
set_option maxRecDepth 100000 in
theorem iw_2015 : (Jvm.Cond.selects "EngagedToneModel" ({ cls := "EngagedToneModel", name := "keep", desc := "()I" } : Jvm.MethodName) ({ cls := "EngagedToneModel", name := "keep", desc := "()I" } : Jvm.MethodName)) ∈ ia_T := ia_in8 (List.mem_of_getElem? (i := 225) rfl) rfl
set_option maxRecDepth 100000 in
theorem iw_2016 : (Jvm.Cond.code ({ cls := "EngagedToneModel", name := "keep", desc := "()I" } : Jvm.MethodName) prog_12_method_112_code (1 : Nat) (Option.some Jvm.ClassFile.FieldType.int)) ∈ ia_T := ia_in8 (List.mem_of_getElem? (i := 226) rfl) rfl
set_option maxRecDepth 100000 in
theorem iw_2017 : (Jvm.Cond.methodLink "EngagedToneLaw" (177 : Nat) ({ cls := "EngagedToneModel", name := "back", desc := "()I" } : Jvm.MethodName)) ∈ ia_T := ia_in8 (List.mem_of_getElem? (i := 227) rfl) rfl
set_option maxRecDepth 100000 in
theorem iw_2018 : (Jvm.Cond.instanceMethod ({ cls := "EngagedToneModel", name := "back", desc := "()I" } : Jvm.MethodName)) ∈ ia_T := ia_in8 (List.mem_of_getElem? (i := 228) rfl) rfl
set_option maxRecDepth 100000 in
theorem iw_2019 : (Jvm.Cond.selects "EngagedToneModel" ({ cls := "EngagedToneModel", name := "back", desc := "()I" } : Jvm.MethodName) ({ cls := "EngagedToneModel", name := "back", desc := "()I" } : Jvm.MethodName)) ∈ ia_T := ia_in8 (List.mem_of_getElem? (i := 229) rfl) rfl
set_option maxRecDepth 100000 in
theorem iw_2020 : (Jvm.Cond.code ({ cls := "EngagedToneModel", name := "back", desc := "()I" } : Jvm.MethodName) prog_12_method_113_code (1 : Nat) (Option.some Jvm.ClassFile.FieldType.int)) ∈ ia_T := ia_in8 (List.mem_of_getElem? (i := 230) rfl) rfl
set_option maxRecDepth 100000 in
theorem iw_2021 : (Jvm.Cond.methodLink "EngagedToneLaw" (181 : Nat) ({ cls := "EngagedToneModel", name := "count", desc := "(I)I" } : Jvm.MethodName)) ∈ ia_T := ia_in8 (List.mem_of_getElem? (i := 231) rfl) rfl
set_option maxRecDepth 100000 in
theorem iw_2022 : (Jvm.Cond.instanceMethod ({ cls := "EngagedToneModel", name := "count", desc := "(I)I" } : Jvm.MethodName)) ∈ ia_T := ia_in8 (List.mem_of_getElem? (i := 232) rfl) rfl
set_option maxRecDepth 100000 in
theorem iw_2023 : (Jvm.Cond.selects "EngagedToneModel" ({ cls := "EngagedToneModel", name := "count", desc := "(I)I" } : Jvm.MethodName) ({ cls := "EngagedToneModel", name := "count", desc := "(I)I" } : Jvm.MethodName)) ∈ ia_T := ia_in8 (List.mem_of_getElem? (i := 233) rfl) rfl
set_option maxRecDepth 100000 in
theorem iw_2024 : (Jvm.Cond.code ({ cls := "EngagedToneModel", name := "count", desc := "(I)I" } : Jvm.MethodName) prog_12_method_114_code (4 : Nat) (Option.some Jvm.ClassFile.FieldType.int)) ∈ ia_T := ia_in8 (List.mem_of_getElem? (i := 234) rfl) rfl
set_option maxRecDepth 100000 in
theorem iw_2041 : (Jvm.Cond.fieldLink "java/lang/String" (9 : Nat) "java/lang/String" "value" "[B") ∈ ia_T := ia_in9 (List.mem_of_getElem? (i := 11) rfl) rfl
set_option maxRecDepth 100000 in
theorem iw_2042 : (Jvm.Cond.fieldLink "java/lang/String" (15 : Nat) "java/lang/String" "coder" "B") ∈ ia_T := ia_in9 (List.mem_of_getElem? (i := 12) rfl) rfl

/-! What the tables say of the methods. -/
theorem ia_mO0 : ia_miP 0 := ⟨rfl, iw_535, iw_124, by decide +kernel, Nat.le_of_ble_eq_true rfl, (fun h => nomatch h), fun _ => ⟨iw_534, rfl, rfl⟩, (fun h => nomatch h)⟩
theorem ia_mO1 : ia_miP 1 := ⟨rfl, iw_847, iw_124, by decide +kernel, Nat.le_of_ble_eq_true rfl, fun _ => ⟨iw_845, iw_846⟩, (fun h => nomatch h), (fun h => nomatch h)⟩
theorem ia_mO2 : ia_miP 2 := ⟨rfl, iw_953, iw_124, by decide +kernel, Nat.le_of_ble_eq_true rfl, fun _ => ⟨iw_951, iw_952⟩, (fun h => nomatch h), (fun h => nomatch h)⟩
theorem ia_mO3 : ia_miP 3 := ⟨rfl, iw_957, iw_124, by decide +kernel, Nat.le_of_ble_eq_true rfl, fun _ => ⟨iw_956, iw_29⟩, (fun h => nomatch h), (fun h => nomatch h)⟩
theorem ia_mO4 : ia_miP 4 := ⟨rfl, iw_1238, iw_124, by decide +kernel, Nat.le_of_ble_eq_true rfl, fun _ => ⟨iw_1236, iw_1237⟩, (fun h => nomatch h), (fun h => nomatch h)⟩
theorem ia_mO5 : ia_miP 5 := ⟨rfl, iw_452, iw_121, by decide +kernel, Nat.le_of_ble_eq_true rfl, (fun h => nomatch h), fun _ => ⟨iw_451, rfl, rfl⟩, (fun h => nomatch h)⟩
theorem ia_mO6 : ia_miP 6 := ⟨rfl, iw_904, iw_121, by decide +kernel, Nat.le_of_ble_eq_true rfl, fun _ => ⟨iw_902, iw_903⟩, (fun h => nomatch h), (fun h => nomatch h)⟩
theorem ia_mO7 : ia_miP 7 := ⟨rfl, iw_982, iw_121, by decide +kernel, Nat.le_of_ble_eq_true rfl, fun _ => ⟨iw_980, iw_981⟩, (fun h => nomatch h), (fun h => nomatch h)⟩
theorem ia_mO8 : ia_miP 8 := ⟨rfl, iw_994, iw_121, by decide +kernel, Nat.le_of_ble_eq_true rfl, fun _ => ⟨iw_993, iw_31⟩, (fun h => nomatch h), (fun h => nomatch h)⟩
theorem ia_mO9 : ia_miP 9 := ⟨rfl, iw_1007, iw_121, by decide +kernel, Nat.le_of_ble_eq_true rfl, fun _ => ⟨iw_1006, iw_32⟩, (fun h => nomatch h), (fun h => nomatch h)⟩
theorem ia_mO10 : ia_miP 10 := ⟨rfl, iw_1011, iw_121, by decide +kernel, Nat.le_of_ble_eq_true rfl, fun _ => ⟨iw_1010, iw_33⟩, (fun h => nomatch h), (fun h => nomatch h)⟩
theorem ia_mO11 : ia_miP 11 := ⟨rfl, iw_1021, iw_121, by decide +kernel, Nat.le_of_ble_eq_true rfl, fun _ => ⟨iw_1020, iw_34⟩, (fun h => nomatch h), (fun h => nomatch h)⟩
theorem ia_mO12 : ia_miP 12 := ⟨rfl, iw_1029, iw_121, by decide +kernel, Nat.le_of_ble_eq_true rfl, fun _ => ⟨iw_1028, iw_35⟩, (fun h => nomatch h), (fun h => nomatch h)⟩
theorem ia_mO13 : ia_miP 13 := ⟨rfl, iw_920, iw_121, by decide +kernel, Nat.le_of_ble_eq_true rfl, fun _ => ⟨iw_918, iw_919⟩, (fun h => nomatch h), (fun h => nomatch h)⟩
theorem ia_mO14 : ia_miP 14 := ⟨rfl, iw_488, iw_122, by decide +kernel, Nat.le_of_ble_eq_true rfl, (fun h => nomatch h), fun _ => ⟨iw_487, rfl, rfl⟩, (fun h => nomatch h)⟩
theorem ia_mO15 : ia_miP 15 := ⟨rfl, iw_1038, iw_122, by decide +kernel, Nat.le_of_ble_eq_true rfl, fun _ => ⟨iw_1036, iw_1037⟩, (fun h => nomatch h), (fun h => nomatch h)⟩
theorem ia_mO16 : ia_miP 16 := ⟨rfl, iw_1044, iw_122, by decide +kernel, Nat.le_of_ble_eq_true rfl, fun _ => ⟨iw_1042, iw_1043⟩, (fun h => nomatch h), (fun h => nomatch h)⟩
theorem ia_mO17 : ia_miP 17 := ⟨rfl, iw_1080, iw_122, by decide +kernel, Nat.le_of_ble_eq_true rfl, fun _ => ⟨iw_1078, iw_1079⟩, (fun h => nomatch h), (fun h => nomatch h)⟩
theorem ia_mO18 : ia_miP 18 := ⟨rfl, iw_1063, iw_122, by decide +kernel, Nat.le_of_ble_eq_true rfl, fun _ => ⟨iw_1061, iw_1062⟩, (fun h => nomatch h), (fun h => nomatch h)⟩
theorem ia_mO19 : ia_miP 19 := ⟨rfl, iw_1072, iw_122, by decide +kernel, Nat.le_of_ble_eq_true rfl, fun _ => ⟨iw_1070, iw_1071⟩, (fun h => nomatch h), (fun h => nomatch h)⟩
theorem ia_mO20 : ia_miP 20 := ⟨rfl, iw_1156, iw_122, by decide +kernel, Nat.le_of_ble_eq_true rfl, fun _ => ⟨iw_1154, iw_1155⟩, (fun h => nomatch h), (fun h => nomatch h)⟩
theorem ia_mO21 : ia_miP 21 := ⟨rfl, iw_1110, iw_122, by decide +kernel, Nat.le_of_ble_eq_true rfl, fun _ => ⟨iw_1108, iw_1109⟩, (fun h => nomatch h), (fun h => nomatch h)⟩
theorem ia_mO22 : ia_miP 22 := ⟨rfl, iw_1115, iw_122, by decide +kernel, Nat.le_of_ble_eq_true rfl, (fun h => nomatch h), (fun h => nomatch h), fun _ => iw_1114⟩
theorem ia_mO23 : ia_miP 23 := ⟨rfl, iw_1209, iw_122, by decide +kernel, Nat.le_of_ble_eq_true rfl, fun _ => ⟨iw_1207, iw_1208⟩, (fun h => nomatch h), (fun h => nomatch h)⟩
theorem ia_mO24 : ia_miP 24 := ⟨rfl, iw_247, iw_114, by decide +kernel, Nat.le_of_ble_eq_true rfl, (fun h => nomatch h), fun _ => ⟨iw_246, rfl, rfl⟩, (fun h => nomatch h)⟩
theorem ia_mO25 : ia_miP 25 := ⟨rfl, iw_624, iw_114, by decide +kernel, Nat.le_of_ble_eq_true rfl, fun _ => ⟨iw_622, iw_623⟩, (fun h => nomatch h), (fun h => nomatch h)⟩
theorem ia_mO26 : ia_miP 26 := ⟨rfl, iw_776, iw_114, by decide +kernel, Nat.le_of_ble_eq_true rfl, fun _ => ⟨iw_774, iw_775⟩, (fun h => nomatch h), (fun h => nomatch h)⟩
theorem ia_mO27 : ia_miP 27 := ⟨rfl, iw_811, iw_114, by decide +kernel, Nat.le_of_ble_eq_true rfl, fun _ => ⟨iw_809, iw_810⟩, (fun h => nomatch h), (fun h => nomatch h)⟩
theorem ia_mO28 : ia_miP 28 := ⟨rfl, iw_780, iw_114, by decide +kernel, Nat.le_of_ble_eq_true rfl, fun _ => ⟨iw_778, iw_779⟩, (fun h => nomatch h), (fun h => nomatch h)⟩
theorem ia_mO29 : ia_miP 29 := ⟨rfl, iw_828, iw_114, by decide +kernel, Nat.le_of_ble_eq_true rfl, fun _ => ⟨iw_826, iw_827⟩, (fun h => nomatch h), (fun h => nomatch h)⟩
theorem ia_mO30 : ia_miP 30 := ⟨rfl, iw_934, iw_114, by decide +kernel, Nat.le_of_ble_eq_true rfl, fun _ => ⟨iw_932, iw_933⟩, (fun h => nomatch h), (fun h => nomatch h)⟩
theorem ia_mO31 : ia_miP 31 := ⟨rfl, iw_939, iw_114, by decide +kernel, Nat.le_of_ble_eq_true rfl, (fun h => nomatch h), (fun h => nomatch h), fun _ => iw_938⟩
theorem ia_mO32 : ia_miP 32 := ⟨rfl, iw_942, iw_114, by decide +kernel, Nat.le_of_ble_eq_true rfl, (fun h => nomatch h), (fun h => nomatch h), fun _ => iw_941⟩
theorem ia_mO33 : ia_miP 33 := ⟨rfl, iw_336, iw_115, by decide +kernel, Nat.le_of_ble_eq_true rfl, (fun h => nomatch h), fun _ => ⟨iw_335, rfl, rfl⟩, (fun h => nomatch h)⟩
theorem ia_mO34 : ia_miP 34 := ⟨rfl, iw_612, iw_115, by decide +kernel, Nat.le_of_ble_eq_true rfl, fun _ => ⟨iw_610, iw_611⟩, (fun h => nomatch h), (fun h => nomatch h)⟩
theorem ia_mO35 : ia_miP 35 := ⟨rfl, iw_832, iw_115, by decide +kernel, Nat.le_of_ble_eq_true rfl, fun _ => ⟨iw_830, iw_831⟩, (fun h => nomatch h), (fun h => nomatch h)⟩
theorem ia_mO36 : ia_miP 36 := ⟨rfl, iw_722, iw_115, by decide +kernel, Nat.le_of_ble_eq_true rfl, fun _ => ⟨iw_721, iw_7⟩, (fun h => nomatch h), (fun h => nomatch h)⟩
theorem ia_mO37 : ia_miP 37 := ⟨rfl, iw_714, iw_115, by decide +kernel, Nat.le_of_ble_eq_true rfl, fun _ => ⟨iw_713, iw_5⟩, (fun h => nomatch h), (fun h => nomatch h)⟩
theorem ia_mO38 : ia_miP 38 := ⟨rfl, iw_718, iw_115, by decide +kernel, Nat.le_of_ble_eq_true rfl, fun _ => ⟨iw_717, iw_6⟩, (fun h => nomatch h), (fun h => nomatch h)⟩
theorem ia_mO39 : ia_miP 39 := ⟨rfl, iw_735, iw_115, by decide +kernel, Nat.le_of_ble_eq_true rfl, fun _ => ⟨iw_734, iw_9⟩, (fun h => nomatch h), (fun h => nomatch h)⟩
theorem ia_mO40 : ia_miP 40 := ⟨rfl, iw_747, iw_115, by decide +kernel, Nat.le_of_ble_eq_true rfl, fun _ => ⟨iw_746, iw_11⟩, (fun h => nomatch h), (fun h => nomatch h)⟩
theorem ia_mO41 : ia_miP 41 := ⟨rfl, iw_751, iw_115, by decide +kernel, Nat.le_of_ble_eq_true rfl, fun _ => ⟨iw_750, iw_12⟩, (fun h => nomatch h), (fun h => nomatch h)⟩
theorem ia_mO42 : ia_miP 42 := ⟨rfl, iw_759, iw_115, by decide +kernel, Nat.le_of_ble_eq_true rfl, fun _ => ⟨iw_758, iw_13⟩, (fun h => nomatch h), (fun h => nomatch h)⟩
theorem ia_mO43 : ia_miP 43 := ⟨rfl, iw_763, iw_115, by decide +kernel, Nat.le_of_ble_eq_true rfl, fun _ => ⟨iw_762, iw_14⟩, (fun h => nomatch h), (fun h => nomatch h)⟩
theorem ia_mO44 : ia_miP 44 := ⟨rfl, iw_767, iw_115, by decide +kernel, Nat.le_of_ble_eq_true rfl, fun _ => ⟨iw_766, iw_15⟩, (fun h => nomatch h), (fun h => nomatch h)⟩
theorem ia_mO45 : ia_miP 45 := ⟨rfl, iw_731, iw_115, by decide +kernel, Nat.le_of_ble_eq_true rfl, fun _ => ⟨iw_730, iw_8⟩, (fun h => nomatch h), (fun h => nomatch h)⟩
theorem ia_mO46 : ia_miP 46 := ⟨rfl, iw_739, iw_115, by decide +kernel, Nat.le_of_ble_eq_true rfl, fun _ => ⟨iw_738, iw_10⟩, (fun h => nomatch h), (fun h => nomatch h)⟩
theorem ia_mO47 : ia_miP 47 := ⟨rfl, iw_772, iw_115, by decide +kernel, Nat.le_of_ble_eq_true rfl, fun _ => ⟨iw_771, iw_16⟩, (fun h => nomatch h), (fun h => nomatch h)⟩
theorem ia_mO48 : ia_miP 48 := ⟨rfl, iw_784, iw_115, by decide +kernel, Nat.le_of_ble_eq_true rfl, fun _ => ⟨iw_783, iw_17⟩, (fun h => nomatch h), (fun h => nomatch h)⟩
theorem ia_mO49 : ia_miP 49 := ⟨rfl, iw_788, iw_115, by decide +kernel, Nat.le_of_ble_eq_true rfl, fun _ => ⟨iw_787, iw_18⟩, (fun h => nomatch h), (fun h => nomatch h)⟩
theorem ia_mO50 : ia_miP 50 := ⟨rfl, iw_796, iw_115, by decide +kernel, Nat.le_of_ble_eq_true rfl, fun _ => ⟨iw_795, iw_20⟩, (fun h => nomatch h), (fun h => nomatch h)⟩
theorem ia_mO51 : ia_miP 51 := ⟨rfl, iw_815, iw_115, by decide +kernel, Nat.le_of_ble_eq_true rfl, fun _ => ⟨iw_814, iw_23⟩, (fun h => nomatch h), (fun h => nomatch h)⟩
theorem ia_mO52 : ia_miP 52 := ⟨rfl, iw_824, iw_115, by decide +kernel, Nat.le_of_ble_eq_true rfl, fun _ => ⟨iw_823, iw_25⟩, (fun h => nomatch h), (fun h => nomatch h)⟩
theorem ia_mO53 : ia_miP 53 := ⟨rfl, iw_819, iw_115, by decide +kernel, Nat.le_of_ble_eq_true rfl, fun _ => ⟨iw_818, iw_24⟩, (fun h => nomatch h), (fun h => nomatch h)⟩
theorem ia_mO54 : ia_miP 54 := ⟨rfl, iw_800, iw_115, by decide +kernel, Nat.le_of_ble_eq_true rfl, fun _ => ⟨iw_799, iw_21⟩, (fun h => nomatch h), (fun h => nomatch h)⟩
theorem ia_mO55 : ia_miP 55 := ⟨rfl, iw_792, iw_115, by decide +kernel, Nat.le_of_ble_eq_true rfl, fun _ => ⟨iw_791, iw_19⟩, (fun h => nomatch h), (fun h => nomatch h)⟩
theorem ia_mO56 : ia_miP 56 := ⟨rfl, iw_807, iw_115, by decide +kernel, Nat.le_of_ble_eq_true rfl, fun _ => ⟨iw_806, iw_22⟩, (fun h => nomatch h), (fun h => nomatch h)⟩
theorem ia_mO57 : ia_miP 57 := ⟨rfl, iw_803, iw_115, by decide +kernel, Nat.le_of_ble_eq_true rfl, (fun h => nomatch h), (fun h => nomatch h), fun _ => iw_802⟩
theorem ia_mO58 : ia_miP 58 := ⟨rfl, iw_507, iw_123, by decide +kernel, Nat.le_of_ble_eq_true rfl, (fun h => nomatch h), fun _ => ⟨iw_506, rfl, rfl⟩, (fun h => nomatch h)⟩
theorem ia_mO59 : ia_miP 59 := ⟨rfl, iw_843, iw_123, by decide +kernel, Nat.le_of_ble_eq_true rfl, fun _ => ⟨iw_841, iw_842⟩, (fun h => nomatch h), (fun h => nomatch h)⟩
theorem ia_mO60 : ia_miP 60 := ⟨rfl, iw_1185, iw_123, by decide +kernel, Nat.le_of_ble_eq_true rfl, fun _ => ⟨iw_1183, iw_1184⟩, (fun h => nomatch h), (fun h => nomatch h)⟩
theorem ia_mO61 : ia_miP 61 := ⟨rfl, iw_1205, iw_123, by decide +kernel, Nat.le_of_ble_eq_true rfl, fun _ => ⟨iw_1203, iw_1204⟩, (fun h => nomatch h), (fun h => nomatch h)⟩
theorem ia_mO62 : ia_miP 62 := ⟨rfl, iw_1201, iw_123, by decide +kernel, Nat.le_of_ble_eq_true rfl, fun _ => ⟨iw_1199, iw_1200⟩, (fun h => nomatch h), (fun h => nomatch h)⟩
theorem ia_mO63 : ia_miP 63 := ⟨rfl, iw_1217, iw_123, by decide +kernel, Nat.le_of_ble_eq_true rfl, fun _ => ⟨iw_1216, iw_41⟩, (fun h => nomatch h), (fun h => nomatch h)⟩
theorem ia_mO64 : ia_miP 64 := ⟨rfl, iw_1213, iw_123, by decide +kernel, Nat.le_of_ble_eq_true rfl, fun _ => ⟨iw_1211, iw_1212⟩, (fun h => nomatch h), (fun h => nomatch h)⟩
theorem ia_mO65 : ia_miP 65 := ⟨rfl, iw_1222, iw_123, by decide +kernel, Nat.le_of_ble_eq_true rfl, fun _ => ⟨iw_1220, iw_1221⟩, (fun h => nomatch h), (fun h => nomatch h)⟩
theorem ia_mO66 : ia_miP 66 := ⟨rfl, iw_147, iw_112, by decide +kernel, Nat.le_of_ble_eq_true rfl, (fun h => nomatch h), fun _ => ⟨iw_146, rfl, rfl⟩, (fun h => nomatch h)⟩
theorem ia_mO67 : ia_miP 67 := ⟨rfl, iw_616, iw_112, by decide +kernel, Nat.le_of_ble_eq_true rfl, fun _ => ⟨iw_614, iw_615⟩, (fun h => nomatch h), (fun h => nomatch h)⟩
theorem ia_mO68 : ia_miP 68 := ⟨rfl, iw_727, iw_112, by decide +kernel, Nat.le_of_ble_eq_true rfl, fun _ => ⟨iw_725, iw_726⟩, (fun h => nomatch h), (fun h => nomatch h)⟩
theorem ia_mO69 : ia_miP 69 := ⟨rfl, iw_896, iw_112, by decide +kernel, Nat.le_of_ble_eq_true rfl, fun _ => ⟨iw_894, iw_895⟩, (fun h => nomatch h), (fun h => nomatch h)⟩
theorem ia_mO70 : ia_miP 70 := ⟨rfl, iw_908, iw_112, by decide +kernel, Nat.le_of_ble_eq_true rfl, fun _ => ⟨iw_906, iw_907⟩, (fun h => nomatch h), (fun h => nomatch h)⟩
theorem ia_mO71 : ia_miP 71 := ⟨rfl, iw_912, iw_112, by decide +kernel, Nat.le_of_ble_eq_true rfl, fun _ => ⟨iw_910, iw_911⟩, (fun h => nomatch h), (fun h => nomatch h)⟩
theorem ia_mO72 : ia_miP 72 := ⟨rfl, iw_344, iw_116, by decide +kernel, Nat.le_of_ble_eq_true rfl, (fun h => nomatch h), fun _ => ⟨iw_343, rfl, rfl⟩, (fun h => nomatch h)⟩
theorem ia_mO73 : ia_miP 73 := ⟨rfl, iw_628, iw_116, by decide +kernel, Nat.le_of_ble_eq_true rfl, fun _ => ⟨iw_626, iw_627⟩, (fun h => nomatch h), (fun h => nomatch h)⟩
theorem ia_mO74 : ia_miP 74 := ⟨rfl, iw_639, iw_116, by decide +kernel, Nat.le_of_ble_eq_true rfl, fun _ => ⟨iw_638, iw_1⟩, (fun h => nomatch h), (fun h => nomatch h)⟩
theorem ia_mO75 : ia_miP 75 := ⟨rfl, iw_635, iw_116, by decide +kernel, Nat.le_of_ble_eq_true rfl, fun _ => ⟨iw_633, iw_634⟩, (fun h => nomatch h), (fun h => nomatch h)⟩
theorem ia_mO76 : ia_miP 76 := ⟨rfl, iw_643, iw_116, by decide +kernel, Nat.le_of_ble_eq_true rfl, fun _ => ⟨iw_642, iw_2⟩, (fun h => nomatch h), (fun h => nomatch h)⟩
theorem ia_mO77 : ia_miP 77 := ⟨rfl, iw_647, iw_116, by decide +kernel, Nat.le_of_ble_eq_true rfl, fun _ => ⟨iw_646, iw_3⟩, (fun h => nomatch h), (fun h => nomatch h)⟩
theorem ia_mO78 : ia_miP 78 := ⟨rfl, iw_652, iw_116, by decide +kernel, Nat.le_of_ble_eq_true rfl, fun _ => ⟨iw_651, iw_4⟩, (fun h => nomatch h), (fun h => nomatch h)⟩
theorem ia_mO79 : ia_miP 79 := ⟨rfl, iw_153, iw_113, by decide +kernel, Nat.le_of_ble_eq_true rfl, (fun h => nomatch h), fun _ => ⟨iw_152, rfl, rfl⟩, (fun h => nomatch h)⟩
theorem ia_mO80 : ia_miP 80 := ⟨rfl, iw_620, iw_113, by decide +kernel, Nat.le_of_ble_eq_true rfl, fun _ => ⟨iw_618, iw_619⟩, (fun h => nomatch h), (fun h => nomatch h)⟩
theorem ia_mO81 : ia_miP 81 := ⟨rfl, iw_836, iw_113, by decide +kernel, Nat.le_of_ble_eq_true rfl, fun _ => ⟨iw_834, iw_835⟩, (fun h => nomatch h), (fun h => nomatch h)⟩
theorem ia_mO82 : ia_miP 82 := ⟨rfl, iw_743, iw_113, by decide +kernel, Nat.le_of_ble_eq_true rfl, fun _ => ⟨iw_741, iw_742⟩, (fun h => nomatch h), (fun h => nomatch h)⟩
theorem ia_mO83 : ia_miP 83 := ⟨rfl, iw_1242, iw_113, by decide +kernel, Nat.le_of_ble_eq_true rfl, fun _ => ⟨iw_1240, iw_1241⟩, (fun h => nomatch h), (fun h => nomatch h)⟩
theorem ia_mO84 : ia_miP 84 := ⟨rfl, iw_755, iw_113, by decide +kernel, Nat.le_of_ble_eq_true rfl, fun _ => ⟨iw_753, iw_754⟩, (fun h => nomatch h), (fun h => nomatch h)⟩
theorem ia_mO85 : ia_miP 85 := ⟨rfl, iw_872, iw_113, by decide +kernel, Nat.le_of_ble_eq_true rfl, fun _ => ⟨iw_870, iw_871⟩, (fun h => nomatch h), (fun h => nomatch h)⟩
theorem ia_mO86 : ia_miP 86 := ⟨rfl, iw_876, iw_113, by decide +kernel, Nat.le_of_ble_eq_true rfl, fun _ => ⟨iw_874, iw_875⟩, (fun h => nomatch h), (fun h => nomatch h)⟩
theorem ia_mO87 : ia_miP 87 := ⟨rfl, iw_868, iw_113, by decide +kernel, Nat.le_of_ble_eq_true rfl, fun _ => ⟨iw_866, iw_867⟩, (fun h => nomatch h), (fun h => nomatch h)⟩
theorem ia_mO88 : ia_miP 88 := ⟨rfl, iw_880, iw_113, by decide +kernel, Nat.le_of_ble_eq_true rfl, fun _ => ⟨iw_878, iw_879⟩, (fun h => nomatch h), (fun h => nomatch h)⟩
theorem ia_mO89 : ia_miP 89 := ⟨rfl, iw_1059, iw_113, by decide +kernel, Nat.le_of_ble_eq_true rfl, fun _ => ⟨iw_1057, iw_1058⟩, (fun h => nomatch h), (fun h => nomatch h)⟩
theorem ia_mO90 : ia_miP 90 := ⟨rfl, iw_1049, iw_113, by decide +kernel, Nat.le_of_ble_eq_true rfl, fun _ => ⟨iw_1047, iw_1048⟩, (fun h => nomatch h), (fun h => nomatch h)⟩
theorem ia_mO91 : ia_miP 91 := ⟨rfl, iw_1017, iw_113, by decide +kernel, Nat.le_of_ble_eq_true rfl, fun _ => ⟨iw_1015, iw_1016⟩, (fun h => nomatch h), (fun h => nomatch h)⟩
theorem ia_mO92 : ia_miP 92 := ⟨rfl, iw_1258, iw_113, by decide +kernel, Nat.le_of_ble_eq_true rfl, fun _ => ⟨iw_1256, iw_1257⟩, (fun h => nomatch h), (fun h => nomatch h)⟩
theorem ia_mO93 : ia_miP 93 := ⟨rfl, iw_1168, iw_113, by decide +kernel, Nat.le_of_ble_eq_true rfl, fun _ => ⟨iw_1166, iw_1167⟩, (fun h => nomatch h), (fun h => nomatch h)⟩
theorem ia_mO94 : ia_miP 94 := ⟨rfl, iw_1089, iw_113, by decide +kernel, Nat.le_of_ble_eq_true rfl, fun _ => ⟨iw_1087, iw_1088⟩, (fun h => nomatch h), (fun h => nomatch h)⟩
theorem ia_mO95 : ia_miP 95 := ⟨rfl, iw_1098, iw_113, by decide +kernel, Nat.le_of_ble_eq_true rfl, fun _ => ⟨iw_1096, iw_1097⟩, (fun h => nomatch h), (fun h => nomatch h)⟩
theorem ia_mO96 : ia_miP 96 := ⟨rfl, iw_1106, iw_113, by decide +kernel, Nat.le_of_ble_eq_true rfl, fun _ => ⟨iw_1104, iw_1105⟩, (fun h => nomatch h), (fun h => nomatch h)⟩
theorem ia_mO97 : ia_miP 97 := ⟨rfl, iw_986, iw_113, by decide +kernel, Nat.le_of_ble_eq_true rfl, fun _ => ⟨iw_984, iw_985⟩, (fun h => nomatch h), (fun h => nomatch h)⟩
theorem ia_mO98 : ia_miP 98 := ⟨rfl, iw_990, iw_113, by decide +kernel, Nat.le_of_ble_eq_true rfl, fun _ => ⟨iw_988, iw_989⟩, (fun h => nomatch h), (fun h => nomatch h)⟩
theorem ia_mO99 : ia_miP 99 := ⟨rfl, iw_139, iw_111, by decide +kernel, Nat.le_of_ble_eq_true rfl, (fun h => nomatch h), fun _ => ⟨iw_138, rfl, rfl⟩, (fun h => nomatch h)⟩
theorem ia_mO100 : ia_miP 100 := ⟨rfl, iw_600, iw_111, by decide +kernel, Nat.le_of_ble_eq_true rfl, fun _ => ⟨iw_598, iw_599⟩, (fun h => nomatch h), (fun h => nomatch h)⟩
theorem ia_mO101 : ia_miP 101 := ⟨rfl, iw_604, iw_111, by decide +kernel, Nat.le_of_ble_eq_true rfl, fun _ => ⟨iw_603, iw_0⟩, (fun h => nomatch h), (fun h => nomatch h)⟩
theorem ia_mO102 : ia_miP 102 := ⟨rfl, iw_608, iw_111, by decide +kernel, Nat.le_of_ble_eq_true rfl, fun _ => ⟨iw_606, iw_607⟩, (fun h => nomatch h), (fun h => nomatch h)⟩
theorem ia_mO103 : ia_miP 103 := ⟨rfl, iw_851, iw_111, by decide +kernel, Nat.le_of_ble_eq_true rfl, fun _ => ⟨iw_849, iw_850⟩, (fun h => nomatch h), (fun h => nomatch h)⟩
theorem ia_mO104 : ia_miP 104 := ⟨rfl, iw_855, iw_111, by decide +kernel, Nat.le_of_ble_eq_true rfl, fun _ => ⟨iw_853, iw_854⟩, (fun h => nomatch h), (fun h => nomatch h)⟩
theorem ia_mO105 : ia_miP 105 := ⟨rfl, iw_860, iw_111, by decide +kernel, Nat.le_of_ble_eq_true rfl, fun _ => ⟨iw_858, iw_859⟩, (fun h => nomatch h), (fun h => nomatch h)⟩
theorem ia_mO106 : ia_miP 106 := ⟨rfl, iw_884, iw_111, by decide +kernel, Nat.le_of_ble_eq_true rfl, fun _ => ⟨iw_882, iw_883⟩, (fun h => nomatch h), (fun h => nomatch h)⟩
theorem ia_mO107 : ia_miP 107 := ⟨rfl, iw_892, iw_111, by decide +kernel, Nat.le_of_ble_eq_true rfl, fun _ => ⟨iw_890, iw_891⟩, (fun h => nomatch h), (fun h => nomatch h)⟩
theorem ia_mO108 : ia_miP 108 := ⟨rfl, iw_900, iw_111, by decide +kernel, Nat.le_of_ble_eq_true rfl, fun _ => ⟨iw_898, iw_899⟩, (fun h => nomatch h), (fun h => nomatch h)⟩
theorem ia_mO109 : ia_miP 109 := ⟨rfl, iw_949, iw_111, by decide +kernel, Nat.le_of_ble_eq_true rfl, fun _ => ⟨iw_947, iw_948⟩, (fun h => nomatch h), (fun h => nomatch h)⟩
theorem ia_mO110 : ia_miP 110 := ⟨rfl, iw_962, iw_111, by decide +kernel, Nat.le_of_ble_eq_true rfl, fun _ => ⟨iw_960, iw_961⟩, (fun h => nomatch h), (fun h => nomatch h)⟩
theorem ia_mO111 : ia_miP 111 := ⟨rfl, iw_970, iw_111, by decide +kernel, Nat.le_of_ble_eq_true rfl, fun _ => ⟨iw_968, iw_969⟩, (fun h => nomatch h), (fun h => nomatch h)⟩
theorem ia_mO112 : ia_miP 112 := ⟨rfl, iw_974, iw_111, by decide +kernel, Nat.le_of_ble_eq_true rfl, fun _ => ⟨iw_972, iw_973⟩, (fun h => nomatch h), (fun h => nomatch h)⟩
theorem ia_mO113 : ia_miP 113 := ⟨rfl, iw_978, iw_111, by decide +kernel, Nat.le_of_ble_eq_true rfl, fun _ => ⟨iw_976, iw_977⟩, (fun h => nomatch h), (fun h => nomatch h)⟩
theorem ia_mO114 : ia_miP 114 := ⟨rfl, iw_1034, iw_111, by decide +kernel, Nat.le_of_ble_eq_true rfl, fun _ => ⟨iw_1032, iw_1033⟩, (fun h => nomatch h), (fun h => nomatch h)⟩
theorem ia_mO115 : ia_miP 115 := ⟨rfl, iw_1055, iw_111, by decide +kernel, Nat.le_of_ble_eq_true rfl, fun _ => ⟨iw_1053, iw_1054⟩, (fun h => nomatch h), (fun h => nomatch h)⟩
theorem ia_mO116 : ia_miP 116 := ⟨rfl, iw_1068, iw_111, by decide +kernel, Nat.le_of_ble_eq_true rfl, fun _ => ⟨iw_1066, iw_1067⟩, (fun h => nomatch h), (fun h => nomatch h)⟩
theorem ia_mO117 : ia_miP 117 := ⟨rfl, iw_1076, iw_111, by decide +kernel, Nat.le_of_ble_eq_true rfl, fun _ => ⟨iw_1074, iw_1075⟩, (fun h => nomatch h), (fun h => nomatch h)⟩
theorem ia_mO118 : ia_miP 118 := ⟨rfl, iw_1085, iw_111, by decide +kernel, Nat.le_of_ble_eq_true rfl, fun _ => ⟨iw_1083, iw_1084⟩, (fun h => nomatch h), (fun h => nomatch h)⟩
theorem ia_mO119 : ia_miP 119 := ⟨rfl, iw_1094, iw_111, by decide +kernel, Nat.le_of_ble_eq_true rfl, fun _ => ⟨iw_1093, iw_36⟩, (fun h => nomatch h), (fun h => nomatch h)⟩
theorem ia_mO120 : ia_miP 120 := ⟨rfl, iw_1102, iw_111, by decide +kernel, Nat.le_of_ble_eq_true rfl, fun _ => ⟨iw_1100, iw_1101⟩, (fun h => nomatch h), (fun h => nomatch h)⟩
theorem ia_mO121 : ia_miP 121 := ⟨rfl, iw_1120, iw_111, by decide +kernel, Nat.le_of_ble_eq_true rfl, fun _ => ⟨iw_1118, iw_1119⟩, (fun h => nomatch h), (fun h => nomatch h)⟩
theorem ia_mO122 : ia_miP 122 := ⟨rfl, iw_1135, iw_111, by decide +kernel, Nat.le_of_ble_eq_true rfl, fun _ => ⟨iw_1133, iw_1134⟩, (fun h => nomatch h), (fun h => nomatch h)⟩
theorem ia_mO123 : ia_miP 123 := ⟨rfl, iw_1128, iw_111, by decide +kernel, Nat.le_of_ble_eq_true rfl, fun _ => ⟨iw_1127, iw_38⟩, (fun h => nomatch h), (fun h => nomatch h)⟩
theorem ia_mO124 : ia_miP 124 := ⟨rfl, iw_1131, iw_111, by decide +kernel, Nat.le_of_ble_eq_true rfl, (fun h => nomatch h), (fun h => nomatch h), fun _ => iw_1130⟩
theorem ia_mO125 : ia_miP 125 := ⟨rfl, iw_1139, iw_111, by decide +kernel, Nat.le_of_ble_eq_true rfl, fun _ => ⟨iw_1137, iw_1138⟩, (fun h => nomatch h), (fun h => nomatch h)⟩
theorem ia_mO126 : ia_miP 126 := ⟨rfl, iw_1143, iw_111, by decide +kernel, Nat.le_of_ble_eq_true rfl, fun _ => ⟨iw_1142, iw_39⟩, (fun h => nomatch h), (fun h => nomatch h)⟩
theorem ia_mO127 : ia_miP 127 := ⟨rfl, iw_1147, iw_111, by decide +kernel, Nat.le_of_ble_eq_true rfl, fun _ => ⟨iw_1146, iw_40⟩, (fun h => nomatch h), (fun h => nomatch h)⟩
theorem ia_mO128 : ia_miP 128 := ⟨rfl, iw_1152, iw_111, by decide +kernel, Nat.le_of_ble_eq_true rfl, fun _ => ⟨iw_1150, iw_1151⟩, (fun h => nomatch h), (fun h => nomatch h)⟩
theorem ia_mO129 : ia_miP 129 := ⟨rfl, iw_1160, iw_111, by decide +kernel, Nat.le_of_ble_eq_true rfl, (fun h => nomatch h), (fun h => nomatch h), fun _ => iw_1159⟩
theorem ia_mO130 : ia_miP 130 := ⟨rfl, iw_1164, iw_111, by decide +kernel, Nat.le_of_ble_eq_true rfl, fun _ => ⟨iw_1162, iw_1163⟩, (fun h => nomatch h), (fun h => nomatch h)⟩
theorem ia_mO131 : ia_miP 131 := ⟨rfl, iw_1173, iw_111, by decide +kernel, Nat.le_of_ble_eq_true rfl, fun _ => ⟨iw_1171, iw_1172⟩, (fun h => nomatch h), (fun h => nomatch h)⟩
theorem ia_mO132 : ia_miP 132 := ⟨rfl, iw_1177, iw_111, by decide +kernel, Nat.le_of_ble_eq_true rfl, fun _ => ⟨iw_1175, iw_1176⟩, (fun h => nomatch h), (fun h => nomatch h)⟩
theorem ia_mO133 : ia_miP 133 := ⟨rfl, iw_1181, iw_111, by decide +kernel, Nat.le_of_ble_eq_true rfl, fun _ => ⟨iw_1179, iw_1180⟩, (fun h => nomatch h), (fun h => nomatch h)⟩
theorem ia_mO134 : ia_miP 134 := ⟨rfl, iw_1189, iw_111, by decide +kernel, Nat.le_of_ble_eq_true rfl, fun _ => ⟨iw_1187, iw_1188⟩, (fun h => nomatch h), (fun h => nomatch h)⟩
theorem ia_mO135 : ia_miP 135 := ⟨rfl, iw_1193, iw_111, by decide +kernel, Nat.le_of_ble_eq_true rfl, fun _ => ⟨iw_1191, iw_1192⟩, (fun h => nomatch h), (fun h => nomatch h)⟩
theorem ia_mO136 : ia_miP 136 := ⟨rfl, iw_1197, iw_111, by decide +kernel, Nat.le_of_ble_eq_true rfl, fun _ => ⟨iw_1195, iw_1196⟩, (fun h => nomatch h), (fun h => nomatch h)⟩
theorem ia_mO137 : ia_miP 137 := ⟨rfl, iw_1226, iw_111, by decide +kernel, Nat.le_of_ble_eq_true rfl, fun _ => ⟨iw_1224, iw_1225⟩, (fun h => nomatch h), (fun h => nomatch h)⟩
theorem ia_mO138 : ia_miP 138 := ⟨rfl, iw_1230, iw_111, by decide +kernel, Nat.le_of_ble_eq_true rfl, fun _ => ⟨iw_1228, iw_1229⟩, (fun h => nomatch h), (fun h => nomatch h)⟩
theorem ia_mO139 : ia_miP 139 := ⟨rfl, iw_1234, iw_111, by decide +kernel, Nat.le_of_ble_eq_true rfl, fun _ => ⟨iw_1232, iw_1233⟩, (fun h => nomatch h), (fun h => nomatch h)⟩
theorem ia_mO140 : ia_miP 140 := ⟨rfl, iw_1246, iw_111, by decide +kernel, Nat.le_of_ble_eq_true rfl, fun _ => ⟨iw_1244, iw_1245⟩, (fun h => nomatch h), (fun h => nomatch h)⟩
theorem ia_mO141 : ia_miP 141 := ⟨rfl, iw_1250, iw_111, by decide +kernel, Nat.le_of_ble_eq_true rfl, fun _ => ⟨iw_1248, iw_1249⟩, (fun h => nomatch h), (fun h => nomatch h)⟩
theorem ia_mO142 : ia_miP 142 := ⟨rfl, iw_1254, iw_111, by decide +kernel, Nat.le_of_ble_eq_true rfl, fun _ => ⟨iw_1252, iw_1253⟩, (fun h => nomatch h), (fun h => nomatch h)⟩
theorem ia_mO143 : ia_miP 143 := ⟨rfl, iw_864, iw_111, by decide +kernel, Nat.le_of_ble_eq_true rfl, fun _ => ⟨iw_863, iw_26⟩, (fun h => nomatch h), (fun h => nomatch h)⟩
theorem ia_mO144 : ia_miP 144 := ⟨rfl, iw_888, iw_111, by decide +kernel, Nat.le_of_ble_eq_true rfl, fun _ => ⟨iw_887, iw_27⟩, (fun h => nomatch h), (fun h => nomatch h)⟩
theorem ia_mO145 : ia_miP 145 := ⟨rfl, iw_916, iw_111, by decide +kernel, Nat.le_of_ble_eq_true rfl, fun _ => ⟨iw_915, iw_28⟩, (fun h => nomatch h), (fun h => nomatch h)⟩
theorem ia_mO146 : ia_miP 146 := ⟨rfl, iw_966, iw_111, by decide +kernel, Nat.le_of_ble_eq_true rfl, fun _ => ⟨iw_965, iw_30⟩, (fun h => nomatch h), (fun h => nomatch h)⟩
theorem ia_mO147 : ia_miP 147 := ⟨rfl, iw_1124, iw_111, by decide +kernel, Nat.le_of_ble_eq_true rfl, fun _ => ⟨iw_1123, iw_37⟩, (fun h => nomatch h), (fun h => nomatch h)⟩
theorem ia_mO148 : ia_miP 148 := ⟨rfl, iw_1355, iw_125, by decide +kernel, Nat.le_of_ble_eq_true rfl, (fun h => nomatch h), fun _ => ⟨iw_1354, rfl, rfl⟩, (fun h => nomatch h)⟩
theorem ia_mO149 : ia_miP 149 := ⟨rfl, iw_1576, iw_125, by decide +kernel, Nat.le_of_ble_eq_true rfl, fun _ => ⟨iw_1574, iw_1575⟩, (fun h => nomatch h), (fun h => nomatch h)⟩
theorem ia_mO150 : ia_miP 150 := ⟨rfl, iw_1580, iw_125, by decide +kernel, Nat.le_of_ble_eq_true rfl, fun _ => ⟨iw_1578, iw_1579⟩, (fun h => nomatch h), (fun h => nomatch h)⟩
theorem ia_mO151 : ia_miP 151 := ⟨rfl, iw_1596, iw_125, by decide +kernel, Nat.le_of_ble_eq_true rfl, fun _ => ⟨iw_1595, iw_47⟩, (fun h => nomatch h), (fun h => nomatch h)⟩
theorem ia_mO152 : ia_miP 152 := ⟨rfl, iw_1599, iw_125, by decide +kernel, Nat.le_of_ble_eq_true rfl, (fun h => nomatch h), (fun h => nomatch h), fun _ => iw_1598⟩
theorem ia_mO153 : ia_miP 153 := ⟨rfl, iw_1613, iw_125, by decide +kernel, Nat.le_of_ble_eq_true rfl, (fun h => nomatch h), (fun h => nomatch h), fun _ => iw_1612⟩
theorem ia_mO154 : ia_miP 154 := ⟨rfl, iw_1592, iw_125, by decide +kernel, Nat.le_of_ble_eq_true rfl, fun _ => ⟨iw_1591, iw_46⟩, (fun h => nomatch h), (fun h => nomatch h)⟩
theorem ia_mO155 : ia_miP 155 := ⟨rfl, iw_1618, iw_125, by decide +kernel, Nat.le_of_ble_eq_true rfl, fun _ => ⟨iw_1617, iw_50⟩, (fun h => nomatch h), (fun h => nomatch h)⟩
theorem ia_mO156 : ia_miP 156 := ⟨rfl, iw_1603, iw_125, by decide +kernel, Nat.le_of_ble_eq_true rfl, fun _ => ⟨iw_1602, iw_48⟩, (fun h => nomatch h), (fun h => nomatch h)⟩
theorem ia_mO157 : ia_miP 157 := ⟨rfl, iw_1610, iw_125, by decide +kernel, Nat.le_of_ble_eq_true rfl, fun _ => ⟨iw_1609, iw_49⟩, (fun h => nomatch h), (fun h => nomatch h)⟩
theorem ia_mO158 : ia_miP 158 := ⟨rfl, iw_1626, iw_125, by decide +kernel, Nat.le_of_ble_eq_true rfl, fun _ => ⟨iw_1625, iw_52⟩, (fun h => nomatch h), (fun h => nomatch h)⟩
theorem ia_mO159 : ia_miP 159 := ⟨rfl, iw_1681, iw_125, by decide +kernel, Nat.le_of_ble_eq_true rfl, fun _ => ⟨iw_1680, iw_65⟩, (fun h => nomatch h), (fun h => nomatch h)⟩
theorem ia_mO160 : ia_miP 160 := ⟨rfl, iw_1705, iw_125, by decide +kernel, Nat.le_of_ble_eq_true rfl, fun _ => ⟨iw_1704, iw_71⟩, (fun h => nomatch h), (fun h => nomatch h)⟩
theorem ia_mO161 : ia_miP 161 := ⟨rfl, iw_1657, iw_125, by decide +kernel, Nat.le_of_ble_eq_true rfl, fun _ => ⟨iw_1656, iw_59⟩, (fun h => nomatch h), (fun h => nomatch h)⟩
theorem ia_mO162 : ia_miP 162 := ⟨rfl, iw_1645, iw_125, by decide +kernel, Nat.le_of_ble_eq_true rfl, fun _ => ⟨iw_1644, iw_56⟩, (fun h => nomatch h), (fun h => nomatch h)⟩
theorem ia_mO163 : ia_miP 163 := ⟨rfl, iw_1641, iw_125, by decide +kernel, Nat.le_of_ble_eq_true rfl, (fun h => nomatch h), (fun h => nomatch h), fun _ => iw_1640⟩
theorem ia_mO164 : ia_miP 164 := ⟨rfl, iw_1638, iw_125, by decide +kernel, Nat.le_of_ble_eq_true rfl, fun _ => ⟨iw_1637, iw_55⟩, (fun h => nomatch h), (fun h => nomatch h)⟩
theorem ia_mO165 : ia_miP 165 := ⟨rfl, iw_1634, iw_125, by decide +kernel, Nat.le_of_ble_eq_true rfl, fun _ => ⟨iw_1633, iw_54⟩, (fun h => nomatch h), (fun h => nomatch h)⟩
theorem ia_mO166 : ia_miP 166 := ⟨rfl, iw_1588, iw_125, by decide +kernel, Nat.le_of_ble_eq_true rfl, fun _ => ⟨iw_1587, iw_45⟩, (fun h => nomatch h), (fun h => nomatch h)⟩
theorem ia_mO167 : ia_miP 167 := ⟨rfl, iw_1653, iw_125, by decide +kernel, Nat.le_of_ble_eq_true rfl, fun _ => ⟨iw_1652, iw_58⟩, (fun h => nomatch h), (fun h => nomatch h)⟩
theorem ia_mO168 : ia_miP 168 := ⟨rfl, iw_1649, iw_125, by decide +kernel, Nat.le_of_ble_eq_true rfl, fun _ => ⟨iw_1648, iw_57⟩, (fun h => nomatch h), (fun h => nomatch h)⟩
theorem ia_mO169 : ia_miP 169 := ⟨rfl, iw_1630, iw_125, by decide +kernel, Nat.le_of_ble_eq_true rfl, fun _ => ⟨iw_1629, iw_53⟩, (fun h => nomatch h), (fun h => nomatch h)⟩
theorem ia_mO170 : ia_miP 170 := ⟨rfl, iw_1622, iw_125, by decide +kernel, Nat.le_of_ble_eq_true rfl, fun _ => ⟨iw_1621, iw_51⟩, (fun h => nomatch h), (fun h => nomatch h)⟩
theorem ia_mO171 : ia_miP 171 := ⟨rfl, iw_1661, iw_125, by decide +kernel, Nat.le_of_ble_eq_true rfl, fun _ => ⟨iw_1660, iw_60⟩, (fun h => nomatch h), (fun h => nomatch h)⟩
theorem ia_mO172 : ia_miP 172 := ⟨rfl, iw_1665, iw_125, by decide +kernel, Nat.le_of_ble_eq_true rfl, fun _ => ⟨iw_1664, iw_61⟩, (fun h => nomatch h), (fun h => nomatch h)⟩
theorem ia_mO173 : ia_miP 173 := ⟨rfl, iw_1689, iw_125, by decide +kernel, Nat.le_of_ble_eq_true rfl, fun _ => ⟨iw_1688, iw_67⟩, (fun h => nomatch h), (fun h => nomatch h)⟩
theorem ia_mO174 : ia_miP 174 := ⟨rfl, iw_1685, iw_125, by decide +kernel, Nat.le_of_ble_eq_true rfl, fun _ => ⟨iw_1684, iw_66⟩, (fun h => nomatch h), (fun h => nomatch h)⟩
theorem ia_mO175 : ia_miP 175 := ⟨rfl, iw_1669, iw_125, by decide +kernel, Nat.le_of_ble_eq_true rfl, fun _ => ⟨iw_1668, iw_62⟩, (fun h => nomatch h), (fun h => nomatch h)⟩
theorem ia_mO176 : ia_miP 176 := ⟨rfl, iw_1673, iw_125, by decide +kernel, Nat.le_of_ble_eq_true rfl, fun _ => ⟨iw_1672, iw_63⟩, (fun h => nomatch h), (fun h => nomatch h)⟩
theorem ia_mO177 : ia_miP 177 := ⟨rfl, iw_1677, iw_125, by decide +kernel, Nat.le_of_ble_eq_true rfl, fun _ => ⟨iw_1676, iw_64⟩, (fun h => nomatch h), (fun h => nomatch h)⟩
theorem ia_mO178 : ia_miP 178 := ⟨rfl, iw_1693, iw_125, by decide +kernel, Nat.le_of_ble_eq_true rfl, fun _ => ⟨iw_1692, iw_68⟩, (fun h => nomatch h), (fun h => nomatch h)⟩
theorem ia_mO179 : ia_miP 179 := ⟨rfl, iw_1697, iw_125, by decide +kernel, Nat.le_of_ble_eq_true rfl, fun _ => ⟨iw_1696, iw_69⟩, (fun h => nomatch h), (fun h => nomatch h)⟩
theorem ia_mO180 : ia_miP 180 := ⟨rfl, iw_1701, iw_125, by decide +kernel, Nat.le_of_ble_eq_true rfl, fun _ => ⟨iw_1700, iw_70⟩, (fun h => nomatch h), (fun h => nomatch h)⟩
theorem ia_mO181 : ia_miP 181 := ⟨rfl, iw_1708, iw_125, by decide +kernel, Nat.le_of_ble_eq_true rfl, (fun h => nomatch h), (fun h => nomatch h), fun _ => iw_1707⟩
theorem ia_mO182 : ia_miP 182 := ⟨rfl, iw_1584, iw_125, by decide +kernel, Nat.le_of_ble_eq_true rfl, fun _ => ⟨iw_1582, iw_1583⟩, (fun h => nomatch h), (fun h => nomatch h)⟩
theorem ia_mO183 : ia_miP 183 := ⟨rfl, iw_1712, iw_125, by decide +kernel, Nat.le_of_ble_eq_true rfl, fun _ => ⟨iw_1710, iw_1711⟩, (fun h => nomatch h), (fun h => nomatch h)⟩
theorem ia_mO184 : ia_miP 184 := ⟨rfl, iw_1716, iw_125, by decide +kernel, Nat.le_of_ble_eq_true rfl, fun _ => ⟨iw_1714, iw_1715⟩, (fun h => nomatch h), (fun h => nomatch h)⟩
theorem ia_mO185 : ia_miP 185 := ⟨rfl, iw_1788, iw_125, by decide +kernel, Nat.le_of_ble_eq_true rfl, (fun h => nomatch h), (fun h => nomatch h), fun _ => iw_1787⟩
theorem ia_mO186 : ia_miP 186 := ⟨rfl, iw_1785, iw_125, by decide +kernel, Nat.le_of_ble_eq_true rfl, fun _ => ⟨iw_1784, iw_83⟩, (fun h => nomatch h), (fun h => nomatch h)⟩
theorem ia_mO187 : ia_miP 187 := ⟨rfl, iw_1781, iw_125, by decide +kernel, Nat.le_of_ble_eq_true rfl, fun _ => ⟨iw_1780, iw_82⟩, (fun h => nomatch h), (fun h => nomatch h)⟩
theorem ia_mO188 : ia_miP 188 := ⟨rfl, iw_1768, iw_125, by decide +kernel, Nat.le_of_ble_eq_true rfl, fun _ => ⟨iw_1767, iw_79⟩, (fun h => nomatch h), (fun h => nomatch h)⟩
theorem ia_mO189 : ia_miP 189 := ⟨rfl, iw_1364, iw_125, by decide +kernel, Nat.le_of_ble_eq_true rfl, fun _ => ⟨iw_1363, iw_44⟩, (fun h => nomatch h), (fun h => nomatch h)⟩
theorem ia_mO190 : ia_miP 190 := ⟨rfl, iw_1360, iw_125, by decide +kernel, Nat.le_of_ble_eq_true rfl, fun _ => ⟨iw_1359, iw_43⟩, (fun h => nomatch h), (fun h => nomatch h)⟩
theorem ia_mO191 : ia_miP 191 := ⟨rfl, iw_1805, iw_125, by decide +kernel, Nat.le_of_ble_eq_true rfl, fun _ => ⟨iw_1804, iw_85⟩, (fun h => nomatch h), (fun h => nomatch h)⟩
theorem ia_mO192 : ia_miP 192 := ⟨rfl, iw_1732, iw_125, by decide +kernel, Nat.le_of_ble_eq_true rfl, fun _ => ⟨iw_1731, iw_73⟩, (fun h => nomatch h), (fun h => nomatch h)⟩
theorem ia_mO193 : ia_miP 193 := ⟨rfl, iw_1724, iw_125, by decide +kernel, Nat.le_of_ble_eq_true rfl, fun _ => ⟨iw_1723, iw_72⟩, (fun h => nomatch h), (fun h => nomatch h)⟩
theorem ia_mO194 : ia_miP 194 := ⟨rfl, iw_1752, iw_125, by decide +kernel, Nat.le_of_ble_eq_true rfl, fun _ => ⟨iw_1751, iw_77⟩, (fun h => nomatch h), (fun h => nomatch h)⟩
theorem ia_mO195 : ia_miP 195 := ⟨rfl, iw_1856, iw_125, by decide +kernel, Nat.le_of_ble_eq_true rfl, fun _ => ⟨iw_1855, iw_93⟩, (fun h => nomatch h), (fun h => nomatch h)⟩
theorem ia_mO196 : ia_miP 196 := ⟨rfl, iw_1862, iw_125, by decide +kernel, Nat.le_of_ble_eq_true rfl, fun _ => ⟨iw_1861, iw_94⟩, (fun h => nomatch h), (fun h => nomatch h)⟩
theorem ia_mO197 : ia_miP 197 := ⟨rfl, iw_1760, iw_125, by decide +kernel, Nat.le_of_ble_eq_true rfl, fun _ => ⟨iw_1759, iw_78⟩, (fun h => nomatch h), (fun h => nomatch h)⟩
theorem ia_mO198 : ia_miP 198 := ⟨rfl, iw_1740, iw_125, by decide +kernel, Nat.le_of_ble_eq_true rfl, fun _ => ⟨iw_1739, iw_75⟩, (fun h => nomatch h), (fun h => nomatch h)⟩
theorem ia_mO199 : ia_miP 199 := ⟨rfl, iw_1744, iw_125, by decide +kernel, Nat.le_of_ble_eq_true rfl, fun _ => ⟨iw_1743, iw_76⟩, (fun h => nomatch h), (fun h => nomatch h)⟩
theorem ia_mO200 : ia_miP 200 := ⟨rfl, iw_1736, iw_125, by decide +kernel, Nat.le_of_ble_eq_true rfl, fun _ => ⟨iw_1735, iw_74⟩, (fun h => nomatch h), (fun h => nomatch h)⟩
theorem ia_mO201 : ia_miP 201 := ⟨rfl, iw_1777, iw_125, by decide +kernel, Nat.le_of_ble_eq_true rfl, fun _ => ⟨iw_1776, iw_81⟩, (fun h => nomatch h), (fun h => nomatch h)⟩
theorem ia_mO202 : ia_miP 202 := ⟨rfl, iw_1773, iw_125, by decide +kernel, Nat.le_of_ble_eq_true rfl, fun _ => ⟨iw_1772, iw_80⟩, (fun h => nomatch h), (fun h => nomatch h)⟩
theorem ia_mO203 : ia_miP 203 := ⟨rfl, iw_1842, iw_125, by decide +kernel, Nat.le_of_ble_eq_true rfl, fun _ => ⟨iw_1841, iw_90⟩, (fun h => nomatch h), (fun h => nomatch h)⟩
theorem ia_mO204 : ia_miP 204 := ⟨rfl, iw_1837, iw_125, by decide +kernel, Nat.le_of_ble_eq_true rfl, fun _ => ⟨iw_1836, iw_89⟩, (fun h => nomatch h), (fun h => nomatch h)⟩
theorem ia_mO205 : ia_miP 205 := ⟨rfl, iw_1833, iw_125, by decide +kernel, Nat.le_of_ble_eq_true rfl, fun _ => ⟨iw_1832, iw_88⟩, (fun h => nomatch h), (fun h => nomatch h)⟩
theorem ia_mO206 : ia_miP 206 := ⟨rfl, iw_1852, iw_125, by decide +kernel, Nat.le_of_ble_eq_true rfl, fun _ => ⟨iw_1851, iw_92⟩, (fun h => nomatch h), (fun h => nomatch h)⟩
theorem ia_mO207 : ia_miP 207 := ⟨rfl, iw_1848, iw_125, by decide +kernel, Nat.le_of_ble_eq_true rfl, fun _ => ⟨iw_1847, iw_91⟩, (fun h => nomatch h), (fun h => nomatch h)⟩
theorem ia_mO208 : ia_miP 208 := ⟨rfl, iw_1829, iw_125, by decide +kernel, Nat.le_of_ble_eq_true rfl, fun _ => ⟨iw_1828, iw_87⟩, (fun h => nomatch h), (fun h => nomatch h)⟩
theorem ia_mO209 : ia_miP 209 := ⟨rfl, iw_1866, iw_125, by decide +kernel, Nat.le_of_ble_eq_true rfl, fun _ => ⟨iw_1865, iw_95⟩, (fun h => nomatch h), (fun h => nomatch h)⟩
theorem ia_mO210 : ia_miP 210 := ⟨rfl, iw_1825, iw_125, by decide +kernel, Nat.le_of_ble_eq_true rfl, fun _ => ⟨iw_1824, iw_86⟩, (fun h => nomatch h), (fun h => nomatch h)⟩
theorem ia_mO211 : ia_miP 211 := ⟨rfl, iw_1878, iw_125, by decide +kernel, Nat.le_of_ble_eq_true rfl, fun _ => ⟨iw_1877, iw_97⟩, (fun h => nomatch h), (fun h => nomatch h)⟩
theorem ia_mO212 : ia_miP 212 := ⟨rfl, iw_1874, iw_125, by decide +kernel, Nat.le_of_ble_eq_true rfl, fun _ => ⟨iw_1873, iw_96⟩, (fun h => nomatch h), (fun h => nomatch h)⟩
theorem ia_mO213 : ia_miP 213 := ⟨rfl, iw_1882, iw_125, by decide +kernel, Nat.le_of_ble_eq_true rfl, fun _ => ⟨iw_1881, iw_98⟩, (fun h => nomatch h), (fun h => nomatch h)⟩
theorem ia_mO214 : ia_miP 214 := ⟨rfl, iw_1720, iw_125, by decide +kernel, Nat.le_of_ble_eq_true rfl, fun _ => ⟨iw_1718, iw_1719⟩, (fun h => nomatch h), (fun h => nomatch h)⟩
theorem ia_mO215 : ia_miP 215 := ⟨rfl, iw_1728, iw_125, by decide +kernel, Nat.le_of_ble_eq_true rfl, fun _ => ⟨iw_1726, iw_1727⟩, (fun h => nomatch h), (fun h => nomatch h)⟩
theorem ia_mO216 : ia_miP 216 := ⟨rfl, iw_1748, iw_125, by decide +kernel, Nat.le_of_ble_eq_true rfl, fun _ => ⟨iw_1746, iw_1747⟩, (fun h => nomatch h), (fun h => nomatch h)⟩
theorem ia_mO217 : ia_miP 217 := ⟨rfl, iw_1756, iw_125, by decide +kernel, Nat.le_of_ble_eq_true rfl, fun _ => ⟨iw_1754, iw_1755⟩, (fun h => nomatch h), (fun h => nomatch h)⟩
theorem ia_mO218 : ia_miP 218 := ⟨rfl, iw_1764, iw_125, by decide +kernel, Nat.le_of_ble_eq_true rfl, fun _ => ⟨iw_1762, iw_1763⟩, (fun h => nomatch h), (fun h => nomatch h)⟩
theorem ia_mO219 : ia_miP 219 := ⟨rfl, iw_1801, iw_125, by decide +kernel, Nat.le_of_ble_eq_true rfl, fun _ => ⟨iw_1800, iw_84⟩, (fun h => nomatch h), (fun h => nomatch h)⟩
theorem ia_mO220 : ia_miP 220 := ⟨rfl, iw_1797, iw_125, by decide +kernel, Nat.le_of_ble_eq_true rfl, fun _ => ⟨iw_1795, iw_1796⟩, (fun h => nomatch h), (fun h => nomatch h)⟩
theorem ia_mO221 : ia_miP 221 := ⟨rfl, iw_1809, iw_125, by decide +kernel, Nat.le_of_ble_eq_true rfl, fun _ => ⟨iw_1807, iw_1808⟩, (fun h => nomatch h), (fun h => nomatch h)⟩
theorem ia_mO222 : ia_miP 222 := ⟨rfl, iw_1813, iw_125, by decide +kernel, Nat.le_of_ble_eq_true rfl, fun _ => ⟨iw_1811, iw_1812⟩, (fun h => nomatch h), (fun h => nomatch h)⟩
theorem ia_mO223 : ia_miP 223 := ⟨rfl, iw_1817, iw_125, by decide +kernel, Nat.le_of_ble_eq_true rfl, fun _ => ⟨iw_1815, iw_1816⟩, (fun h => nomatch h), (fun h => nomatch h)⟩
theorem ia_mO224 : ia_miP 224 := ⟨rfl, iw_1821, iw_125, by decide +kernel, Nat.le_of_ble_eq_true rfl, fun _ => ⟨iw_1819, iw_1820⟩, (fun h => nomatch h), (fun h => nomatch h)⟩
theorem ia_mO225 : ia_miP 225 := ⟨rfl, iw_1870, iw_125, by decide +kernel, Nat.le_of_ble_eq_true rfl, fun _ => ⟨iw_1868, iw_1869⟩, (fun h => nomatch h), (fun h => nomatch h)⟩
theorem ia_mO226 : ia_miP 226 := ⟨rfl, iw_1889, iw_125, by decide +kernel, Nat.le_of_ble_eq_true rfl, (fun h => nomatch h), (fun h => nomatch h), fun _ => iw_1888⟩
theorem ia_mO227 : ia_miP 227 := ⟨rfl, iw_1893, iw_125, by decide +kernel, Nat.le_of_ble_eq_true rfl, fun _ => ⟨iw_1892, iw_99⟩, (fun h => nomatch h), (fun h => nomatch h)⟩
theorem ia_mO228 : ia_miP 228 := ⟨rfl, iw_1886, iw_125, by decide +kernel, Nat.le_of_ble_eq_true rfl, fun _ => ⟨iw_1884, iw_1885⟩, (fun h => nomatch h), (fun h => nomatch h)⟩
theorem ia_mO229 : ia_miP 229 := ⟨rfl, iw_1897, iw_125, by decide +kernel, Nat.le_of_ble_eq_true rfl, fun _ => ⟨iw_1895, iw_1896⟩, (fun h => nomatch h), (fun h => nomatch h)⟩
theorem ia_mO230 : ia_miP 230 := ⟨rfl, iw_1901, iw_125, by decide +kernel, Nat.le_of_ble_eq_true rfl, fun _ => ⟨iw_1899, iw_1900⟩, (fun h => nomatch h), (fun h => nomatch h)⟩
theorem ia_mO231 : ia_miP 231 := ⟨rfl, iw_1908, iw_125, by decide +kernel, Nat.le_of_ble_eq_true rfl, (fun h => nomatch h), (fun h => nomatch h), fun _ => iw_1907⟩
theorem ia_mO232 : ia_miP 232 := ⟨rfl, iw_1905, iw_125, by decide +kernel, Nat.le_of_ble_eq_true rfl, fun _ => ⟨iw_1903, iw_1904⟩, (fun h => nomatch h), (fun h => nomatch h)⟩
theorem ia_mO233 : ia_miP 233 := ⟨rfl, iw_1916, iw_125, by decide +kernel, Nat.le_of_ble_eq_true rfl, fun _ => ⟨iw_1915, iw_100⟩, (fun h => nomatch h), (fun h => nomatch h)⟩
theorem ia_mO234 : ia_miP 234 := ⟨rfl, iw_1912, iw_125, by decide +kernel, Nat.le_of_ble_eq_true rfl, fun _ => ⟨iw_1910, iw_1911⟩, (fun h => nomatch h), (fun h => nomatch h)⟩
theorem ia_mO235 : ia_miP 235 := ⟨rfl, iw_1936, iw_125, by decide +kernel, Nat.le_of_ble_eq_true rfl, fun _ => ⟨iw_1935, iw_104⟩, (fun h => nomatch h), (fun h => nomatch h)⟩
theorem ia_mO236 : ia_miP 236 := ⟨rfl, iw_1932, iw_125, by decide +kernel, Nat.le_of_ble_eq_true rfl, fun _ => ⟨iw_1931, iw_103⟩, (fun h => nomatch h), (fun h => nomatch h)⟩
theorem ia_mO237 : ia_miP 237 := ⟨rfl, iw_1928, iw_125, by decide +kernel, Nat.le_of_ble_eq_true rfl, fun _ => ⟨iw_1927, iw_102⟩, (fun h => nomatch h), (fun h => nomatch h)⟩
theorem ia_mO238 : ia_miP 238 := ⟨rfl, iw_1924, iw_125, by decide +kernel, Nat.le_of_ble_eq_true rfl, fun _ => ⟨iw_1923, iw_101⟩, (fun h => nomatch h), (fun h => nomatch h)⟩
theorem ia_mO239 : ia_miP 239 := ⟨rfl, iw_1920, iw_125, by decide +kernel, Nat.le_of_ble_eq_true rfl, fun _ => ⟨iw_1918, iw_1919⟩, (fun h => nomatch h), (fun h => nomatch h)⟩
theorem ia_mO240 : ia_miP 240 := ⟨rfl, iw_1940, iw_125, by decide +kernel, Nat.le_of_ble_eq_true rfl, fun _ => ⟨iw_1938, iw_1939⟩, (fun h => nomatch h), (fun h => nomatch h)⟩
theorem ia_mO241 : ia_miP 241 := ⟨rfl, iw_1948, iw_125, by decide +kernel, Nat.le_of_ble_eq_true rfl, fun _ => ⟨iw_1947, iw_105⟩, (fun h => nomatch h), (fun h => nomatch h)⟩
theorem ia_mO242 : ia_miP 242 := ⟨rfl, iw_1944, iw_125, by decide +kernel, Nat.le_of_ble_eq_true rfl, fun _ => ⟨iw_1942, iw_1943⟩, (fun h => nomatch h), (fun h => nomatch h)⟩
theorem ia_mO243 : ia_miP 243 := ⟨rfl, iw_1956, iw_125, by decide +kernel, Nat.le_of_ble_eq_true rfl, (fun h => nomatch h), (fun h => nomatch h), fun _ => iw_1955⟩
theorem ia_mO244 : ia_miP 244 := ⟨rfl, iw_1953, iw_125, by decide +kernel, Nat.le_of_ble_eq_true rfl, fun _ => ⟨iw_1951, iw_1952⟩, (fun h => nomatch h), (fun h => nomatch h)⟩
theorem ia_mO245 : ia_miP 245 := ⟨rfl, iw_1964, iw_125, by decide +kernel, Nat.le_of_ble_eq_true rfl, fun _ => ⟨iw_1963, iw_106⟩, (fun h => nomatch h), (fun h => nomatch h)⟩
theorem ia_mO246 : ia_miP 246 := ⟨rfl, iw_1960, iw_125, by decide +kernel, Nat.le_of_ble_eq_true rfl, fun _ => ⟨iw_1958, iw_1959⟩, (fun h => nomatch h), (fun h => nomatch h)⟩
theorem ia_mO247 : ia_miP 247 := ⟨rfl, iw_1968, iw_125, by decide +kernel, Nat.le_of_ble_eq_true rfl, fun _ => ⟨iw_1966, iw_1967⟩, (fun h => nomatch h), (fun h => nomatch h)⟩
theorem ia_mO248 : ia_miP 248 := ⟨rfl, iw_1972, iw_125, by decide +kernel, Nat.le_of_ble_eq_true rfl, fun _ => ⟨iw_1970, iw_1971⟩, (fun h => nomatch h), (fun h => nomatch h)⟩
theorem ia_mO249 : ia_miP 249 := ⟨rfl, iw_1976, iw_125, by decide +kernel, Nat.le_of_ble_eq_true rfl, fun _ => ⟨iw_1974, iw_1975⟩, (fun h => nomatch h), (fun h => nomatch h)⟩
theorem ia_mO250 : ia_miP 250 := ⟨rfl, iw_1980, iw_125, by decide +kernel, Nat.le_of_ble_eq_true rfl, fun _ => ⟨iw_1978, iw_1979⟩, (fun h => nomatch h), (fun h => nomatch h)⟩
theorem ia_mO251 : ia_miP 251 := ⟨rfl, iw_1984, iw_125, by decide +kernel, Nat.le_of_ble_eq_true rfl, fun _ => ⟨iw_1982, iw_1983⟩, (fun h => nomatch h), (fun h => nomatch h)⟩
theorem ia_mO252 : ia_miP 252 := ⟨rfl, iw_1992, iw_125, by decide +kernel, Nat.le_of_ble_eq_true rfl, fun _ => ⟨iw_1991, iw_107⟩, (fun h => nomatch h), (fun h => nomatch h)⟩
theorem ia_mO253 : ia_miP 253 := ⟨rfl, iw_2000, iw_125, by decide +kernel, Nat.le_of_ble_eq_true rfl, fun _ => ⟨iw_1999, iw_109⟩, (fun h => nomatch h), (fun h => nomatch h)⟩
theorem ia_mO254 : ia_miP 254 := ⟨rfl, iw_1996, iw_125, by decide +kernel, Nat.le_of_ble_eq_true rfl, fun _ => ⟨iw_1995, iw_108⟩, (fun h => nomatch h), (fun h => nomatch h)⟩
theorem ia_mO255 : ia_miP 255 := ⟨rfl, iw_1988, iw_125, by decide +kernel, Nat.le_of_ble_eq_true rfl, fun _ => ⟨iw_1986, iw_1987⟩, (fun h => nomatch h), (fun h => nomatch h)⟩
theorem ia_mO256 : ia_miP 256 := ⟨rfl, iw_2004, iw_125, by decide +kernel, Nat.le_of_ble_eq_true rfl, fun _ => ⟨iw_2002, iw_2003⟩, (fun h => nomatch h), (fun h => nomatch h)⟩
theorem ia_mO257 : ia_miP 257 := ⟨rfl, iw_2008, iw_125, by decide +kernel, Nat.le_of_ble_eq_true rfl, fun _ => ⟨iw_2006, iw_2007⟩, (fun h => nomatch h), (fun h => nomatch h)⟩
theorem ia_mO258 : ia_miP 258 := ⟨rfl, iw_2012, iw_125, by decide +kernel, Nat.le_of_ble_eq_true rfl, fun _ => ⟨iw_2010, iw_2011⟩, (fun h => nomatch h), (fun h => nomatch h)⟩
theorem ia_mO259 : ia_miP 259 := ⟨rfl, iw_2016, iw_125, by decide +kernel, Nat.le_of_ble_eq_true rfl, fun _ => ⟨iw_2014, iw_2015⟩, (fun h => nomatch h), (fun h => nomatch h)⟩
theorem ia_mO260 : ia_miP 260 := ⟨rfl, iw_2020, iw_125, by decide +kernel, Nat.le_of_ble_eq_true rfl, fun _ => ⟨iw_2018, iw_2019⟩, (fun h => nomatch h), (fun h => nomatch h)⟩
theorem ia_mO261 : ia_miP 261 := ⟨rfl, iw_2024, iw_125, by decide +kernel, Nat.le_of_ble_eq_true rfl, fun _ => ⟨iw_2022, iw_2023⟩, (fun h => nomatch h), (fun h => nomatch h)⟩
theorem ia_mO263 : ia_miP 263 := ⟨rfl, iw_1791, iw_126, by decide +kernel, Nat.le_of_ble_eq_true rfl, (fun h => nomatch h), (fun h => nomatch h), fun _ => iw_1790⟩
theorem ia_mO264 : ia_miP 264 := ⟨rfl, iw_671, iw_126, by decide +kernel, Nat.le_of_ble_eq_true rfl, (fun h => nomatch h), (fun h => nomatch h), fun _ => iw_670⟩
theorem ia_mO265 : ia_miP 265 := ⟨rfl, iw_1003, iw_126, by decide +kernel, Nat.le_of_ble_eq_true rfl, (fun h => nomatch h), (fun h => nomatch h), fun _ => iw_1002⟩
theorem ia_mO266 : ia_miP 266 := ⟨rfl, iw_631, iw_126, by decide +kernel, Nat.le_of_ble_eq_true rfl, (fun h => nomatch h), (fun h => nomatch h), fun _ => iw_630⟩
theorem ia_mO267 : ia_miP 267 := ⟨rfl, iw_1000, iw_126, by decide +kernel, Nat.le_of_ble_eq_true rfl, (fun h => nomatch h), (fun h => nomatch h), fun _ => iw_999⟩
theorem ia_mO268 : ia_miP 268 := ⟨rfl, iw_926, iw_134, by decide +kernel, Nat.le_of_ble_eq_true rfl, (fun h => nomatch h), (fun h => nomatch h), fun _ => iw_925⟩

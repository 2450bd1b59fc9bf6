/-! the law's own body as a table (printed by a program) -/
def oScr (L : Nat) (xs : Nat → Int32) : Op := fun q => match q.2.2.1 with
  | .int i :: .ref a :: st => match Nat.beq a 400 with
    | true => if i < 0 ∨ L ≤ i.toNatClampNeg then none else some (.inl (q.1 + 1, q.2.1, .int (xs i.toNatClampNeg) :: st, q.2.2.2))
    | false => none
  | _ => none
def oScL (L : Nat) : Op := fun q => match q.2.2.1 with
  | .ref a :: st => match Nat.beq a 400 with
    | true => some (.inl (q.1 + 1, q.2.1, .int (nI L) :: st, q.2.2.2))
    | false => none
  | _ => none
section LAWOPS
variable {p : Program} {l : Launch} {e : Env} {R : Room} {s : State} {m : MethodId} {args : Array Value} {below : List Frame} {meth : Method} {c : Code} {cells slots : Nat} {cc : ByteArray} {nL : Nat} {own : String} {ad : Nat → Nat} {D : va_G} {cI cZ : ClassId} {A : Nat → Prop} {L : Nat} {xs : Nat → Int32}
theorem ok_Scr {pc : Nat} (hX : va_X (ad 400) L xs s s.heap) (hbl : ad 400 < s.heap.size) (hbA : ¬ A (ad 400)) (cx : CX p R s m args c cells slots cc nL own ad D cI cZ A) (hd : decode cc pc = .ok (.iaload, 1)) : OkI p l e R s m args below meth c cells slots cc nL ad D cI cZ A pc (oScr L xs) := by
  intro L' st w r h
  unfold oScr at h
  dsimp only at h
  split at h
  · rename_i _ i a st'
    split at h
    · rename_i hb
      split at h
      · cases h
      · rename_i hi
        cases h
        cases Nat.eq_of_beq_eq_true hb
        intro Q kk H locs ls hP hS hl
        exact va_sld cx.1 cx.2.1 hX hbl hbA hS hi hd (kk H locs ls hP hS hl)
    · cases h
  · cases h
theorem ok_ScL {pc : Nat} (hX : va_X (ad 400) L xs s s.heap) (hbl : ad 400 < s.heap.size) (hbA : ¬ A (ad 400)) (cx : CX p R s m args c cells slots cc nL own ad D cI cZ A) (hd : decode cc pc = .ok (.arraylength, 1)) : OkI p l e R s m args below meth c cells slots cc nL ad D cI cZ A pc (oScL L) := by
  intro L' st w r h
  unfold oScL at h
  dsimp only at h
  split at h
  · rename_i _ a st'
    split at h
    · rename_i hb
      cases h
      cases Nat.eq_of_beq_eq_true hb
      intro Q kk H locs ls hP hS hl
      exact va_slen cx.1 cx.2.1 hX hbl hbA hS hd (kk H locs ls hP hS hl)
    · cases h
  · cases h
end LAWOPS
theorem ca_RL_100 : CalV RL 100 mi_X9_under 1 RX9 := ⟨w_1174, w_1175, w_1176, w_8, w_1177, ⟨rfl, by decide +kernel, by decide +kernel, by decide +kernel⟩, by decide⟩
theorem ca_RL_101 : CalV RL 101 mi_X8_lifted 0 RX8 := ⟨w_742, w_743, w_744, w_1, w_745, ⟨rfl, by decide +kernel, by decide +kernel, by decide +kernel⟩, by decide⟩
theorem ca_RL_104 : CalV RL 104 mi_X9_lifted 0 RX9 := ⟨w_1178, w_1179, w_1180, w_8, w_1181, ⟨rfl, by decide +kernel, by decide +kernel, by decide +kernel⟩, by decide⟩
theorem ca_RL_105 : CalV RL 105 mi_X8_broom 6 RX8 := ⟨w_758, w_759, w_760, w_1, w_761, ⟨rfl, by decide +kernel, by decide +kernel, by decide +kernel⟩, by decide⟩
theorem ca_RL_109 : CalV RL 109 mi_X9_broom 6 RX9 := ⟨w_1186, w_1187, w_1188, w_8, w_1189, ⟨rfl, by decide +kernel, by decide +kernel, by decide +kernel⟩, by decide⟩
theorem ca_RL_110 : CalV RL 110 mi_X8_odds 3 RX8 := ⟨w_771, w_772, w_773, w_1, w_774, ⟨rfl, by decide +kernel, by decide +kernel, by decide +kernel⟩, by decide⟩
theorem ca_RL_114 : CalV RL 114 mi_X9_odds 3 RX9 := ⟨w_1198, w_1199, w_1200, w_8, w_1201, ⟨rfl, by decide +kernel, by decide +kernel, by decide +kernel⟩, by decide⟩
theorem ca_RL_115 : CalV RL 115 mi_X8_rate 2 RX8 := ⟨w_779, w_780, w_781, w_1, w_782, ⟨rfl, by decide +kernel, by decide +kernel, by decide +kernel⟩, by decide⟩
theorem ca_RL_118 : CalV RL 118 mi_X9_rate 2 RX9 := ⟨w_1207, w_1208, w_1209, w_8, w_1210, ⟨rfl, by decide +kernel, by decide +kernel, by decide +kernel⟩, by decide⟩
theorem ca_RL_119 : CalV RL 119 mi_X8_keep 1 RX8 := ⟨w_829, w_830, w_831, w_1, w_832, ⟨rfl, by decide +kernel, by decide +kernel, by decide +kernel⟩, by decide⟩
theorem ca_RL_122 : CalV RL 122 mi_X9_keep 1 RX9 := ⟨w_1217, w_1218, w_1219, w_8, w_1220, ⟨rfl, by decide +kernel, by decide +kernel, by decide +kernel⟩, by decide⟩
theorem ca_RL_123 : CalV RL 123 mi_X8_back 1 RX8 := ⟨w_837, w_838, w_839, w_1, w_840, ⟨rfl, by decide +kernel, by decide +kernel, by decide +kernel⟩, by decide⟩
theorem ca_RL_126 : CalV RL 126 mi_X9_back 1 RX9 := ⟨w_1221, w_1222, w_1223, w_8, w_1224, ⟨rfl, by decide +kernel, by decide +kernel, by decide +kernel⟩, by decide⟩
theorem ca_RL_127 : CalV RL 127 mi_X8_count 1 RX8 := ⟨w_845, w_846, w_847, w_1, w_848, ⟨rfl, by decide +kernel, by decide +kernel, by decide +kernel⟩, by decide⟩
theorem ca_RL_130 : CalV RL 130 mi_X9_count 1 RX9 := ⟨w_1225, w_1226, w_1227, w_8, w_1228, ⟨rfl, by decide +kernel, by decide +kernel, by decide +kernel⟩, by decide⟩
theorem ca_RL_131 : CalV RL 131 mi_X8_trace 0 RX8 := ⟨w_859, w_860, w_861, w_1, w_862, ⟨rfl, by decide +kernel, by decide +kernel, by decide +kernel⟩, by decide⟩
theorem ca_RL_135 : CalV RL 135 mi_X9_trace 0 RX9 := ⟨w_1229, w_1230, w_1231, w_8, w_1232, ⟨rfl, by decide +kernel, by decide +kernel, by decide +kernel⟩, by decide⟩
theorem ca_RL_15 : CalV RL 15 mi_X8_type 2 RX8 := ⟨w_217, w_218, w_219, w_1, w_220, ⟨rfl, by decide +kernel, by decide +kernel, by decide +kernel⟩, by decide⟩
theorem ca_RL_19 : CalV RL 19 mi_X9_type 2 RX9 := ⟨w_980, w_981, w_982, w_8, w_983, ⟨rfl, by decide +kernel, by decide +kernel, by decide +kernel⟩, by decide⟩
theorem ca_RL_20 : CalV RL 20 mi_X8_clear 0 RX8 := ⟨w_236, w_237, w_238, w_1, w_239, ⟨rfl, by decide +kernel, by decide +kernel, by decide +kernel⟩, by decide⟩
theorem ca_RL_24 : CalV RL 24 mi_X9_clear 0 RX9 := ⟨w_988, w_989, w_990, w_8, w_991, ⟨rfl, by decide +kernel, by decide +kernel, by decide +kernel⟩, by decide⟩
theorem ca_RL_25 : CalV RL 25 mi_X8_school 0 RX8 := ⟨w_244, w_245, w_246, w_1, w_247, ⟨rfl, by decide +kernel, by decide +kernel, by decide +kernel⟩, by decide⟩
theorem ca_RL_28 : CalV RL 28 mi_X9_school 0 RX9 := ⟨w_992, w_993, w_994, w_8, w_995, ⟨rfl, by decide +kernel, by decide +kernel, by decide +kernel⟩, by decide⟩
theorem ca_RL_29 : CalV RL 29 mi_X8_spell 2 RX8 := ⟨w_432, w_433, w_434, w_1, w_435, ⟨rfl, by decide +kernel, by decide +kernel, by decide +kernel⟩, by decide⟩
theorem ca_RL_33 : CalV RL 33 mi_X9_spell 2 RX9 := ⟨w_1042, w_1043, w_1044, w_8, w_1045, ⟨rfl, by decide +kernel, by decide +kernel, by decide +kernel⟩, by decide⟩
theorem ca_RL_34 : CalV RL 34 mi_X8_thing 2 RX8 := ⟨w_453, w_454, w_455, w_1, w_456, ⟨rfl, by decide +kernel, by decide +kernel, by decide +kernel⟩, by decide⟩
theorem ca_RL_37 : CalV RL 37 mi_X9_thing 2 RX9 := ⟨w_1050, w_1051, w_1052, w_8, w_1053, ⟨rfl, by decide +kernel, by decide +kernel, by decide +kernel⟩, by decide⟩
theorem ca_RL_38 : CalV RL 38 mi_X8_layer 2 RX8 := ⟨w_485, w_486, w_487, w_1, w_488, ⟨rfl, by decide +kernel, by decide +kernel, by decide +kernel⟩, by decide⟩
theorem ca_RL_41 : CalV RL 41 mi_X9_layer 2 RX9 := ⟨w_1065, w_1066, w_1067, w_8, w_1068, ⟨rfl, by decide +kernel, by decide +kernel, by decide +kernel⟩, by decide⟩
theorem ca_RL_42 : CalV RL 42 mi_X8_pupil 1 RX8 := ⟨w_496, w_497, w_498, w_1, w_499, ⟨rfl, by decide +kernel, by decide +kernel, by decide +kernel⟩, by decide⟩
theorem ca_RL_46 : CalV RL 46 mi_X9_pupil 1 RX9 := ⟨w_1072, w_1073, w_1074, w_8, w_1075, ⟨rfl, by decide +kernel, by decide +kernel, by decide +kernel⟩, by decide⟩
theorem ca_RL_47 : CalV RL 47 mi_X8_lay 3 RX8 := ⟨w_508, w_509, w_510, w_1, w_511, ⟨rfl, by decide +kernel, by decide +kernel, by decide +kernel⟩, by decide⟩
theorem ca_RL_51 : CalV RL 51 mi_X9_lay 3 RX9 := ⟨w_1080, w_1081, w_1082, w_8, w_1083, ⟨rfl, by decide +kernel, by decide +kernel, by decide +kernel⟩, by decide⟩
theorem ca_RL_52 : CalV RL 52 mi_X8_lift 2 RX8 := ⟨w_530, w_531, w_532, w_1, w_533, ⟨rfl, by decide +kernel, by decide +kernel, by decide +kernel⟩, by decide⟩
theorem ca_RL_55 : CalV RL 55 mi_X9_lift 2 RX9 := ⟨w_1092, w_1093, w_1094, w_8, w_1095, ⟨rfl, by decide +kernel, by decide +kernel, by decide +kernel⟩, by decide⟩
theorem ca_RL_56 : CalV RL 56 mi_X8_swap 2 RX8 := ⟨w_553, w_554, w_555, w_1, w_556, ⟨rfl, by decide +kernel, by decide +kernel, by decide +kernel⟩, by decide⟩
theorem ca_RL_59 : CalV RL 59 mi_X9_swap 2 RX9 := ⟨w_1096, w_1097, w_1098, w_8, w_1099, ⟨rfl, by decide +kernel, by decide +kernel, by decide +kernel⟩, by decide⟩
theorem ca_RL_60 : CalV RL 60 mi_X8_copy 3 RX8 := ⟨w_557, w_558, w_559, w_1, w_560, ⟨rfl, by decide +kernel, by decide +kernel, by decide +kernel⟩, by decide⟩
theorem ca_RL_63 : CalV RL 63 mi_X9_copy 3 RX9 := ⟨w_1103, w_1104, w_1105, w_8, w_1106, ⟨rfl, by decide +kernel, by decide +kernel, by decide +kernel⟩, by decide⟩
theorem ca_RL_64 : CalV RL 64 mi_X8_undo 0 RX8 := ⟨w_565, w_566, w_567, w_1, w_568, ⟨rfl, by decide +kernel, by decide +kernel, by decide +kernel⟩, by decide⟩
theorem ca_RL_67 : CalV RL 67 mi_X9_undo 0 RX9 := ⟨w_1107, w_1108, w_1109, w_8, w_1110, ⟨rfl, by decide +kernel, by decide +kernel, by decide +kernel⟩, by decide⟩
theorem ca_RL_68 : CalV RL 68 mi_X8_now 1 RX8 := ⟨w_577, w_578, w_579, w_1, w_580, ⟨rfl, by decide +kernel, by decide +kernel, by decide +kernel⟩, by decide⟩
theorem ca_RL_71 : CalV RL 71 mi_X9_now 1 RX9 := ⟨w_1111, w_1112, w_1113, w_8, w_1114, ⟨rfl, by decide +kernel, by decide +kernel, by decide +kernel⟩, by decide⟩
theorem ca_RL_72 : CalV RL 72 mi_X8_cheapest 4 RX8 := ⟨w_596, w_597, w_598, w_1, w_599, ⟨rfl, by decide +kernel, by decide +kernel, by decide +kernel⟩, by decide⟩
theorem ca_RL_76 : CalV RL 76 mi_X9_cheapest 4 RX9 := ⟨w_1115, w_1116, w_1117, w_8, w_1118, ⟨rfl, by decide +kernel, by decide +kernel, by decide +kernel⟩, by decide⟩
theorem ca_RL_77 : CalV RL 77 mi_X8_takes 2 RX8 := ⟨w_679, w_680, w_681, w_1, w_682, ⟨rfl, by decide +kernel, by decide +kernel, by decide +kernel⟩, by decide⟩
theorem ca_RL_80 : CalV RL 80 mi_X9_takes_ 2 RX9 := ⟨w_1140, w_1141, w_1142, w_8, w_1143, ⟨rfl, by decide +kernel, by decide +kernel, by decide +kernel⟩, by decide⟩
theorem ca_RL_81 : CalV RL 81 mi_X8_learn 2 RX8 := ⟨w_685, w_686, w_687, w_1, w_688, ⟨rfl, by decide +kernel, by decide +kernel, by decide +kernel⟩, by decide⟩
theorem ca_RL_84 : CalV RL 84 mi_X9_learn 2 RX9 := ⟨w_1147, w_1148, w_1149, w_8, w_1150, ⟨rfl, by decide +kernel, by decide +kernel, by decide +kernel⟩, by decide⟩
theorem ca_RL_85 : CalV RL 85 mi_X8_saw 2 RX8 := ⟨w_693, w_694, w_695, w_1, w_696, ⟨rfl, by decide +kernel, by decide +kernel, by decide +kernel⟩, by decide⟩
theorem ca_RL_88 : CalV RL 88 mi_X9_saw 2 RX9 := ⟨w_1155, w_1156, w_1157, w_8, w_1158, ⟨rfl, by decide +kernel, by decide +kernel, by decide +kernel⟩, by decide⟩
theorem ca_RL_89 : CalV RL 89 mi_X8_forget 0 RX8 := ⟨w_706, w_707, w_708, w_1, w_709, ⟨rfl, by decide +kernel, by decide +kernel, by decide +kernel⟩, by decide⟩
theorem ca_RL_92 : CalV RL 92 mi_X9_forget 0 RX9 := ⟨w_1159, w_1160, w_1161, w_8, w_1162, ⟨rfl, by decide +kernel, by decide +kernel, by decide +kernel⟩, by decide⟩
theorem ca_RL_93 : CalV RL 93 mi_X8_could 0 RX8 := ⟨w_710, w_711, w_712, w_1, w_713, ⟨rfl, by decide +kernel, by decide +kernel, by decide +kernel⟩, by decide⟩
theorem ca_RL_96 : CalV RL 96 mi_X9_could 0 RX9 := ⟨w_1163, w_1164, w_1165, w_8, w_1166, ⟨rfl, by decide +kernel, by decide +kernel, by decide +kernel⟩, by decide⟩
theorem ca_RL_97 : CalV RL 97 mi_X8_under 1 RX8 := ⟨w_733, w_734, w_735, w_1, w_736, ⟨rfl, by decide +kernel, by decide +kernel, by decide +kernel⟩, by decide⟩
def T_law (L : Nat) (xs : Nat → Int32) (ex : Ex) : Tb := [(18, oIld 3 1), (19, oAld 0 1), (20, oScL L), (21, pS (fPush (.int 7)) 2), (23, pS (fB (fun x y => x - y)) 1), (24, oIc_gt 1014), (27, oAld 0 1), (28, oIld 3 1), (29, oScr L xs), (30, pS (fPush (.int 31)) 2), (32, pS (fB (fun x y => x &&& y)) 1), (33, oTsw [(0, 160), (1, 223), (2, 236), (3, 249), (4, 282), (5, 315), (6, 348), (7, 371), (8, 414), (9, 447), (10, 480), (11, 523), (12, 536), (13, 559), (14, 612), (15, 645), (16, 678), (17, 711), (18, 724), (19, 737), (20, 760), (21, 773), (22, 848), (23, 892), (24, 925), (25, 948), (26, 971), (27, 994)] 1008), (160, oAld 1 1), (161, oAld 0 1), (162, oIld 3 1), (163, pS (fPush (.int 1)) 1), (164, pS (fB (fun x y => x + y)) 1), (165, oScr L xs), (166, pS fI2l 1), (167, pS (fPush (.int 32)) 2), (169, pS (fSL (fun x y => x <<< (y.toInt64 &&& 63))) 1), (170, oAld 0 1), (171, oIld 3 1), (172, pS (fPush (.int 2)) 1), (173, pS (fB (fun x y => x + y)) 1), (174, oScr L xs), (175, pS fI2l 1), (176, pS (fPush (.long 4294967295)) 3), (179, pS (fBL (fun x y => x &&& y)) 1), (180, pS (fBL (fun x y => x ||| y)) 1), (181, oAld 0 1), (182, oIld 3 1), (183, pS (fPush (.int 3)) 1), (184, pS (fB (fun x y => x + y)) 1), (185, oScr L xs), (186, oCallV ex 102 2 6), (189, oAld 2 1), (190, oAld 0 1), (191, oIld 3 1), (192, pS (fPush (.int 1)) 1), (193, pS (fB (fun x y => x + y)) 1), (194, oScr L xs), (195, pS fI2l 1), (196, pS (fPush (.int 32)) 2), (198, pS (fSL (fun x y => x <<< (y.toInt64 &&& 63))) 1), (199, oAld 0 1), (200, oIld 3 1), (201, pS (fPush (.int 2)) 1), (202, pS (fB (fun x y => x + y)) 1), (203, oScr L xs), (204, pS fI2l 1), (205, pS (fPush (.long 4294967295)) 3), (208, pS (fBL (fun x y => x &&& y)) 1), (209, pS (fBL (fun x y => x ||| y)) 1), (210, oAld 0 1), (211, oIld 3 1), (212, pS (fPush (.int 3)) 1), (213, pS (fB (fun x y => x + y)) 1), (214, oScr L xs), (215, oCallV ex 137 2 7), (218, oIc_eq 1008), (221, pS (fPush (.int 0)) 1), (222, oRetZ), (223, oAld 1 1), (224, oCallV ex 103 0 6), (227, oAld 2 1), (228, oCallV ex 138 0 7), (231, oIc_eq 1008), (234, pS (fPush (.int 0)) 1), (235, oRetZ), (236, oAld 1 1), (237, oCallV ex 104 0 6), (240, oAld 2 1), (241, oCallV ex 149 0 7), (244, oIc_eq 1008), (247, pS (fPush (.int 0)) 1), (248, oRetZ), (249, oAld 1 1), (250, oAld 0 1), (251, oIld 3 1), (252, pS (fPush (.int 1)) 1), (253, pS (fB (fun x y => x + y)) 1), (254, oScr L xs), (255, oAld 0 1), (256, oIld 3 1), (257, pS (fPush (.int 2)) 1), (258, pS (fB (fun x y => x + y)) 1), (259, oScr L xs), (260, oCallV ex 105 2 6), (263, oAld 2 1), (264, oAld 0 1), (265, oIld 3 1), (266, pS (fPush (.int 1)) 1), (267, pS (fB (fun x y => x + y)) 1), (268, oScr L xs), (269, oAld 0 1), (270, oIld 3 1), (271, pS (fPush (.int 2)) 1), (272, pS (fB (fun x y => x + y)) 1), (273, oScr L xs), (274, oCallV ex 154 2 7), (277, oIc_eq 1008), (280, pS (fPush (.int 0)) 1), (281, oRetZ), (282, oAld 1 1), (283, oAld 0 1), (284, oIld 3 1), (285, pS (fPush (.int 1)) 1), (286, pS (fB (fun x y => x + y)) 1), (287, oScr L xs), (288, oAld 0 1), (289, oIld 3 1), (290, pS (fPush (.int 2)) 1), (291, pS (fB (fun x y => x + y)) 1), (292, oScr L xs), (293, oCallV ex 106 2 6), (296, oAld 2 1), (297, oAld 0 1), (298, oIld 3 1), (299, pS (fPush (.int 1)) 1), (300, pS (fB (fun x y => x + y)) 1), (301, oScr L xs), (302, oAld 0 1), (303, oIld 3 1), (304, pS (fPush (.int 2)) 1), (305, pS (fB (fun x y => x + y)) 1), (306, oScr L xs), (307, oCallV ex 157 2 7), (310, oIc_eq 1008), (313, pS (fPush (.int 0)) 1), (314, oRetZ), (315, oAld 1 1), (316, oAld 0 1), (317, oIld 3 1), (318, pS (fPush (.int 1)) 1), (319, pS (fB (fun x y => x + y)) 1), (320, oScr L xs), (321, oAld 0 1), (322, oIld 3 1), (323, pS (fPush (.int 2)) 1), (324, pS (fB (fun x y => x + y)) 1), (325, oScr L xs), (326, oCallV ex 107 2 6), (329, oAld 2 1), (330, oAld 0 1), (331, oIld 3 1), (332, pS (fPush (.int 1)) 1), (333, pS (fB (fun x y => x + y)) 1), (334, oScr L xs), (335, oAld 0 1), (336, oIld 3 1), (337, pS (fPush (.int 2)) 1), (338, pS (fB (fun x y => x + y)) 1), (339, oScr L xs), (340, oCallV ex 159 2 7), (343, oIc_eq 1008), (346, pS (fPush (.int 0)) 1), (347, oRetZ), (348, oAld 1 1), (349, oAld 0 1), (350, oIld 3 1), (351, pS (fPush (.int 1)) 1), (352, pS (fB (fun x y => x + y)) 1), (353, oScr L xs), (354, oCallV ex 108 1 6), (357, oAld 2 1), (358, oAld 0 1), (359, oIld 3 1), (360, pS (fPush (.int 1)) 1), (361, pS (fB (fun x y => x + y)) 1), (362, oScr L xs), (363, oCallV ex 160 1 7), (366, oIc_eq 1008), (369, pS (fPush (.int 0)) 1), (370, oRetZ), (371, oAld 1 1), (372, oAld 0 1), (373, oIld 3 1), (374, pS (fPush (.int 1)) 1), (375, pS (fB (fun x y => x + y)) 1), (376, oScr L xs), (377, oAld 0 1), (378, oIld 3 1), (379, pS (fPush (.int 2)) 1), (380, pS (fB (fun x y => x + y)) 1), (381, oScr L xs), (382, oAld 0 1), (383, oIld 3 1), (384, pS (fPush (.int 3)) 1), (385, pS (fB (fun x y => x + y)) 1), (386, oScr L xs), (387, oCallV ex 109 3 6), (390, oAld 2 1), (391, oAld 0 1), (392, oIld 3 1), (393, pS (fPush (.int 1)) 1), (394, pS (fB (fun x y => x + y)) 1), (395, oScr L xs), (396, oAld 0 1), (397, oIld 3 1), (398, pS (fPush (.int 2)) 1), (399, pS (fB (fun x y => x + y)) 1), (400, oScr L xs), (401, oAld 0 1), (402, oIld 3 1), (403, pS (fPush (.int 3)) 1), (404, pS (fB (fun x y => x + y)) 1), (405, oScr L xs), (406, oCallV ex 163 3 7), (409, oIc_eq 1008), (412, pS (fPush (.int 0)) 1), (413, oRetZ), (414, oAld 1 1), (415, oAld 0 1), (416, oIld 3 1), (417, pS (fPush (.int 1)) 1), (418, pS (fB (fun x y => x + y)) 1), (419, oScr L xs), (420, oAld 0 1), (421, oIld 3 1), (422, pS (fPush (.int 2)) 1), (423, pS (fB (fun x y => x + y)) 1), (424, oScr L xs), (425, oCallV ex 110 2 6), (428, oAld 2 1), (429, oAld 0 1), (430, oIld 3 1), (431, pS (fPush (.int 1)) 1), (432, pS (fB (fun x y => x + y)) 1), (433, oScr L xs), (434, oAld 0 1), (435, oIld 3 1), (436, pS (fPush (.int 2)) 1), (437, pS (fB (fun x y => x + y)) 1), (438, oScr L xs), (439, oCallV ex 164 2 7), (442, oIc_eq 1008), (445, pS (fPush (.int 0)) 1), (446, oRetZ), (447, oAld 1 1), (448, oAld 0 1), (449, oIld 3 1), (450, pS (fPush (.int 1)) 1), (451, pS (fB (fun x y => x + y)) 1), (452, oScr L xs), (453, oAld 0 1), (454, oIld 3 1), (455, pS (fPush (.int 2)) 1), (456, pS (fB (fun x y => x + y)) 1), (457, oScr L xs), (458, oCallV ex 111 2 6), (461, oAld 2 1), (462, oAld 0 1), (463, oIld 3 1), (464, pS (fPush (.int 1)) 1), (465, pS (fB (fun x y => x + y)) 1), (466, oScr L xs), (467, oAld 0 1), (468, oIld 3 1), (469, pS (fPush (.int 2)) 1), (470, pS (fB (fun x y => x + y)) 1), (471, oScr L xs), (472, oCallV ex 166 2 7), (475, oIc_eq 1008), (478, pS (fPush (.int 0)) 1), (479, oRetZ), (480, oAld 1 1), (481, oAld 0 1), (482, oIld 3 1), (483, pS (fPush (.int 1)) 1), (484, pS (fB (fun x y => x + y)) 1), (485, oScr L xs), (486, oAld 0 1), (487, oIld 3 1), (488, pS (fPush (.int 2)) 1), (489, pS (fB (fun x y => x + y)) 1), (490, oScr L xs), (491, oAld 0 1), (492, oIld 3 1), (493, pS (fPush (.int 3)) 1), (494, pS (fB (fun x y => x + y)) 1), (495, oScr L xs), (496, oCallV ex 112 3 6), (499, oAld 2 1), (500, oAld 0 1), (501, oIld 3 1), (502, pS (fPush (.int 1)) 1), (503, pS (fB (fun x y => x + y)) 1), (504, oScr L xs), (505, oAld 0 1), (506, oIld 3 1), (507, pS (fPush (.int 2)) 1), (508, pS (fB (fun x y => x + y)) 1), (509, oScr L xs), (510, oAld 0 1), (511, oIld 3 1), (512, pS (fPush (.int 3)) 1), (513, pS (fB (fun x y => x + y)) 1), (514, oScr L xs), (515, oCallV ex 167 3 7), (518, oIc_eq 1008), (521, pS (fPush (.int 0)) 1), (522, oRetZ), (523, oAld 1 1), (524, oCallV ex 113 0 6), (527, oAld 2 1), (528, oCallV ex 168 0 7), (531, oIc_eq 1008), (534, pS (fPush (.int 0)) 1), (535, oRetZ), (536, oAld 1 1), (537, oAld 0 1), (538, oIld 3 1), (539, pS (fPush (.int 1)) 1), (540, pS (fB (fun x y => x + y)) 1), (541, oScr L xs), (542, oCallV ex 114 1 6), (545, oAld 2 1), (546, oAld 0 1), (547, oIld 3 1), (548, pS (fPush (.int 1)) 1), (549, pS (fB (fun x y => x + y)) 1), (550, oScr L xs), (551, oCallV ex 169 1 7), (554, oIc_eq 1008), (557, pS (fPush (.int 0)) 1), (558, oRetZ), (559, oAld 1 1), (560, oAld 0 1), (561, oIld 3 1), (562, pS (fPush (.int 1)) 1), (563, pS (fB (fun x y => x + y)) 1), (564, oScr L xs), (565, oAld 0 1), (566, oIld 3 1), (567, pS (fPush (.int 2)) 1), (568, pS (fB (fun x y => x + y)) 1), (569, oScr L xs), (570, oAld 0 1), (571, oIld 3 1), (572, pS (fPush (.int 3)) 1), (573, pS (fB (fun x y => x + y)) 1), (574, oScr L xs), (575, oAld 0 1), (576, oIld 3 1), (577, pS (fPush (.int 4)) 1), (578, pS (fB (fun x y => x + y)) 1), (579, oScr L xs), (580, oCallV ex 115 4 6), (583, oAld 2 1), (584, oAld 0 1), (585, oIld 3 1), (586, pS (fPush (.int 1)) 1), (587, pS (fB (fun x y => x + y)) 1), (588, oScr L xs), (589, oAld 0 1), (590, oIld 3 1), (591, pS (fPush (.int 2)) 1), (592, pS (fB (fun x y => x + y)) 1), (593, oScr L xs), (594, oAld 0 1), (595, oIld 3 1), (596, pS (fPush (.int 3)) 1), (597, pS (fB (fun x y => x + y)) 1), (598, oScr L xs), (599, oAld 0 1), (600, oIld 3 1), (601, pS (fPush (.int 4)) 1), (602, pS (fB (fun x y => x + y)) 1), (603, oScr L xs), (604, oCallV ex 176 4 7), (607, oIc_eq 1008), (610, pS (fPush (.int 0)) 1), (611, oRetZ), (612, oAld 1 1), (613, oAld 0 1), (614, oIld 3 1), (615, pS (fPush (.int 1)) 1), (616, pS (fB (fun x y => x + y)) 1), (617, oScr L xs), (618, oAld 0 1), (619, oIld 3 1), (620, pS (fPush (.int 2)) 1), (621, pS (fB (fun x y => x + y)) 1), (622, oScr L xs), (623, oCallV ex 116 2 6), (626, oAld 2 1), (627, oAld 0 1), (628, oIld 3 1), (629, pS (fPush (.int 1)) 1), (630, pS (fB (fun x y => x + y)) 1), (631, oScr L xs), (632, oAld 0 1), (633, oIld 3 1), (634, pS (fPush (.int 2)) 1), (635, pS (fB (fun x y => x + y)) 1), (636, oScr L xs), (637, oCallV ex 177 2 7), (640, oIc_eq 1008), (643, pS (fPush (.int 0)) 1), (644, oRetZ), (645, oAld 1 1), (646, oAld 0 1), (647, oIld 3 1), (648, pS (fPush (.int 1)) 1), (649, pS (fB (fun x y => x + y)) 1), (650, oScr L xs), (651, oAld 0 1), (652, oIld 3 1), (653, pS (fPush (.int 2)) 1), (654, pS (fB (fun x y => x + y)) 1), (655, oScr L xs), (656, oCallV ex 117 2 6), (659, oAld 2 1), (660, oAld 0 1), (661, oIld 3 1), (662, pS (fPush (.int 1)) 1), (663, pS (fB (fun x y => x + y)) 1), (664, oScr L xs), (665, oAld 0 1), (666, oIld 3 1), (667, pS (fPush (.int 2)) 1), (668, pS (fB (fun x y => x + y)) 1), (669, oScr L xs), (670, oCallV ex 179 2 7), (673, oIc_eq 1008), (676, pS (fPush (.int 0)) 1), (677, oRetZ), (678, oAld 1 1), (679, oAld 0 1), (680, oIld 3 1), (681, pS (fPush (.int 1)) 1), (682, pS (fB (fun x y => x + y)) 1), (683, oScr L xs), (684, oAld 0 1), (685, oIld 3 1), (686, pS (fPush (.int 2)) 1), (687, pS (fB (fun x y => x + y)) 1), (688, oScr L xs), (689, oCallV ex 118 2 6), (692, oAld 2 1), (693, oAld 0 1), (694, oIld 3 1), (695, pS (fPush (.int 1)) 1), (696, pS (fB (fun x y => x + y)) 1), (697, oScr L xs), (698, oAld 0 1), (699, oIld 3 1), (700, pS (fPush (.int 2)) 1), (701, pS (fB (fun x y => x + y)) 1), (702, oScr L xs), (703, oCallV ex 180 2 7), (706, oIc_eq 1008), (709, pS (fPush (.int 0)) 1), (710, oRetZ), (711, oAld 1 1), (712, oCallV ex 119 0 6), (715, oAld 2 1), (716, oCallV ex 181 0 7), (719, oIc_eq 1008), (722, pS (fPush (.int 0)) 1), (723, oRetZ), (724, oAld 1 1), (725, oCallV ex 120 0 6), (728, oAld 2 1), (729, oCallV ex 184 0 7), (732, oIc_eq 1008), (735, pS (fPush (.int 0)) 1), (736, oRetZ), (737, oAld 1 1), (738, oAld 0 1), (739, oIld 3 1), (740, pS (fPush (.int 1)) 1), (741, pS (fB (fun x y => x + y)) 1), (742, oScr L xs), (743, oCallV ex 121 1 6), (746, oAld 2 1), (747, oAld 0 1), (748, oIld 3 1), (749, pS (fPush (.int 1)) 1), (750, pS (fB (fun x y => x + y)) 1), (751, oScr L xs), (752, oCallV ex 185 1 7), (755, oIc_eq 1008), (758, pS (fPush (.int 0)) 1), (759, oRetZ), (760, oAld 1 1), (761, oCallV ex 122 0 6), (764, oAld 2 1), (765, oCallV ex 187 0 7), (768, oIc_eq 1008), (771, pS (fPush (.int 0)) 1), (772, oRetZ), (773, oAld 1 1), (774, oAld 0 1), (775, oIld 3 1), (776, pS (fPush (.int 1)) 1), (777, pS (fB (fun x y => x + y)) 1), (778, oScr L xs), (779, oAld 0 1), (780, oIld 3 1), (781, pS (fPush (.int 2)) 1), (782, pS (fB (fun x y => x + y)) 1), (783, oScr L xs), (784, oAld 0 1), (785, oIld 3 1), (786, pS (fPush (.int 3)) 1), (787, pS (fB (fun x y => x + y)) 1), (788, oScr L xs), (789, oAld 0 1), (790, oIld 3 1), (791, pS (fPush (.int 4)) 1), (792, pS (fB (fun x y => x + y)) 1), (793, oScr L xs), (794, oAld 0 1), (795, oIld 3 1), (796, pS (fPush (.int 5)) 1), (797, pS (fB (fun x y => x + y)) 1), (798, oScr L xs), (799, oAld 0 1), (800, oIld 3 1), (801, pS (fPush (.int 6)) 2), (803, pS (fB (fun x y => x + y)) 1), (804, oScr L xs), (805, oCallV ex 123 6 6), (808, oAld 2 1), (809, oAld 0 1), (810, oIld 3 1), (811, pS (fPush (.int 1)) 1), (812, pS (fB (fun x y => x + y)) 1), (813, oScr L xs), (814, oAld 0 1), (815, oIld 3 1), (816, pS (fPush (.int 2)) 1), (817, pS (fB (fun x y => x + y)) 1), (818, oScr L xs), (819, oAld 0 1), (820, oIld 3 1), (821, pS (fPush (.int 3)) 1), (822, pS (fB (fun x y => x + y)) 1), (823, oScr L xs), (824, oAld 0 1), (825, oIld 3 1), (826, pS (fPush (.int 4)) 1), (827, pS (fB (fun x y => x + y)) 1), (828, oScr L xs), (829, oAld 0 1), (830, oIld 3 1), (831, pS (fPush (.int 5)) 1), (832, pS (fB (fun x y => x + y)) 1), (833, oScr L xs), (834, oAld 0 1), (835, oIld 3 1), (836, pS (fPush (.int 6)) 2), (838, pS (fB (fun x y => x + y)) 1), (839, oScr L xs), (840, oCallV ex 190 6 7), (843, oIc_eq 1008), (846, pS (fPush (.int 0)) 1), (847, oRetZ), (848, oAld 1 1), (849, oAld 0 1), (850, oIld 3 1), (851, pS (fPush (.int 1)) 1), (852, pS (fB (fun x y => x + y)) 1), (853, oScr L xs), (854, oAld 0 1), (855, oIld 3 1), (856, pS (fPush (.int 2)) 1), (857, pS (fB (fun x y => x + y)) 1), (858, oScr L xs), (859, oAld 0 1), (860, oIld 3 1), (861, pS (fPush (.int 3)) 1), (862, pS (fB (fun x y => x + y)) 1), (863, oScr L xs), (864, oCallV ex 124 3 6), (867, oAld 2 1), (868, oAld 0 1), (869, oIld 3 1), (870, pS (fPush (.int 1)) 1), (871, pS (fB (fun x y => x + y)) 1), (872, oScr L xs), (873, oAld 0 1), (874, oIld 3 1), (875, pS (fPush (.int 2)) 1), (876, pS (fB (fun x y => x + y)) 1), (877, oScr L xs), (878, oAld 0 1), (879, oIld 3 1), (880, pS (fPush (.int 3)) 1), (881, pS (fB (fun x y => x + y)) 1), (882, oScr L xs), (883, oCallV ex 192 3 7), (886, pS fCmp 1), (887, oIf_eq 1008), (890, pS (fPush (.int 0)) 1), (891, oRetZ), (892, oAld 1 1), (893, oAld 0 1), (894, oIld 3 1), (895, pS (fPush (.int 1)) 1), (896, pS (fB (fun x y => x + y)) 1), (897, oScr L xs), (898, oAld 0 1), (899, oIld 3 1), (900, pS (fPush (.int 2)) 1), (901, pS (fB (fun x y => x + y)) 1), (902, oScr L xs), (903, oCallV ex 125 2 6), (906, oAld 2 1), (907, oAld 0 1), (908, oIld 3 1), (909, pS (fPush (.int 1)) 1), (910, pS (fB (fun x y => x + y)) 1), (911, oScr L xs), (912, oAld 0 1), (913, oIld 3 1), (914, pS (fPush (.int 2)) 1), (915, pS (fB (fun x y => x + y)) 1), (916, oScr L xs), (917, oCallV ex 193 2 7), (920, oIc_eq 1008), (923, pS (fPush (.int 0)) 1), (924, oRetZ), (925, oAld 1 1), (926, oAld 0 1), (927, oIld 3 1), (928, pS (fPush (.int 1)) 1), (929, pS (fB (fun x y => x + y)) 1), (930, oScr L xs), (931, oCallV ex 126 1 6), (934, oAld 2 1), (935, oAld 0 1), (936, oIld 3 1), (937, pS (fPush (.int 1)) 1), (938, pS (fB (fun x y => x + y)) 1), (939, oScr L xs), (940, oCallV ex 194 1 7), (943, oIc_eq 1008), (946, pS (fPush (.int 0)) 1), (947, oRetZ), (948, oAld 1 1), (949, oAld 0 1), (950, oIld 3 1), (951, pS (fPush (.int 1)) 1), (952, pS (fB (fun x y => x + y)) 1), (953, oScr L xs), (954, oCallV ex 127 1 6), (957, oAld 2 1), (958, oAld 0 1), (959, oIld 3 1), (960, pS (fPush (.int 1)) 1), (961, pS (fB (fun x y => x + y)) 1), (962, oScr L xs), (963, oCallV ex 195 1 7), (966, oIc_eq 1008), (969, pS (fPush (.int 0)) 1), (970, oRetZ), (971, oAld 1 1), (972, oAld 0 1), (973, oIld 3 1), (974, pS (fPush (.int 1)) 1), (975, pS (fB (fun x y => x + y)) 1), (976, oScr L xs), (977, oCallV ex 128 1 6), (980, oAld 2 1), (981, oAld 0 1), (982, oIld 3 1), (983, pS (fPush (.int 1)) 1), (984, pS (fB (fun x y => x + y)) 1), (985, oScr L xs), (986, oCallV ex 196 1 7), (989, oIc_eq 1008), (992, pS (fPush (.int 0)) 1), (993, oRetZ), (994, oAld 1 1), (995, oCallV ex 129 0 6), (998, oAld 2 1), (999, oCallV ex 197 0 7), (1002, pS fCmp 1), (1003, oIf_eq 1008), (1006, pS (fPush (.int 0)) 1), (1007, oRetZ), (1008, oInc 3 7), (1011, oGoto 18), (1014, pS (fPush (.int 1)) 1), (1015, oRetZ)]
set_option maxRecDepth 40000 in
theorem ta_law {l : Launch} {d : Nat} {ex : Ex} (hex : ExOk l MIS d ex) {p : Program} {e : Env} {R : Room} {s : State} {m : MethodId} {args : Array Value} {below : List Frame} {meth : Method} {c : Code} {cells slots : Nat} {ad : Nat → Nat} {D : va_G} {cI cZ : ClassId} {A : Nat → Prop} {L : Nat} {xs : Nat → Int32} (hX : va_X (ad 400) L xs s s.heap) (hbl : ad 400 < s.heap.size) (hbA : ¬ A (ad 400)) (cx : CX p R s m args c cells slots code 4 RL ad D cI cZ A) (hR : d + 1 ≤ R.frames ∧ 64 * d + 104 ≤ R.locals) (hA : ∀ q, s.heap.size ≤ q → A q) (hr : meth.sig.returnType = some .boolean) : OkT p l e R s m args below meth c cells slots code 4 ad D cI cZ A (T_law L xs ex) :=
  OkT.cons (ok_iload_n (kn := 3) rfl cx (by decide +kernel)) <|
  OkT.cons (ok_aload_n (kn := 0) rfl cx (by decide +kernel)) <|
  OkT.cons (ok_ScL hX hbl hbA cx (by decide +kernel)) <|
  OkT.cons (ok_bipush (n := 7) cx (by decide +kernel) rfl) <|
  OkT.cons (ok_isub cx (by decide +kernel)) <|
  OkT.cons (ok_Ic_gt (off := 990) (by decide) cx (by decide +kernel)) <|
  OkT.cons (ok_aload_n (kn := 0) rfl cx (by decide +kernel)) <|
  OkT.cons (ok_iload_n (kn := 3) rfl cx (by decide +kernel)) <|
  OkT.cons (ok_Scr hX hbl hbA cx (by decide +kernel)) <|
  OkT.cons (ok_bipush (n := 31) cx (by decide +kernel) rfl) <|
  OkT.cons (ok_iand cx (by decide +kernel)) <|
  OkT.cons (ok_tsw (dflt := 975) (lo := 0) (hi := 27) (offs := #[127, 190, 203, 216, 249, 282, 315, 338, 381, 414, 447, 490, 503, 526, 579, 612, 645, 678, 691, 704, 727, 740, 815, 859, 892, 915, 938, 961]) (len := 127) (by decide +kernel) cx (by decide +kernel)) <|
  OkT.cons (ok_aload_n (kn := 1) rfl cx (by decide +kernel)) <|
  OkT.cons (ok_aload_n (kn := 0) rfl cx (by decide +kernel)) <|
  OkT.cons (ok_iload_n (kn := 3) rfl cx (by decide +kernel)) <|
  OkT.cons (ok_iconst (n := 1) cx (by decide +kernel) rfl) <|
  OkT.cons (ok_iadd cx (by decide +kernel)) <|
  OkT.cons (ok_Scr hX hbl hbA cx (by decide +kernel)) <|
  OkT.cons (ok_i2l cx (by decide +kernel)) <|
  OkT.cons (ok_bipush (n := 32) cx (by decide +kernel) rfl) <|
  OkT.cons (ok_lshl cx (by decide +kernel)) <|
  OkT.cons (ok_aload_n (kn := 0) rfl cx (by decide +kernel)) <|
  OkT.cons (ok_iload_n (kn := 3) rfl cx (by decide +kernel)) <|
  OkT.cons (ok_iconst (n := 2) cx (by decide +kernel) rfl) <|
  OkT.cons (ok_iadd cx (by decide +kernel)) <|
  OkT.cons (ok_Scr hX hbl hbA cx (by decide +kernel)) <|
  OkT.cons (ok_i2l cx (by decide +kernel)) <|
  OkT.cons (ok_ldc2 cx w_1233 (by decide +kernel)) <|
  OkT.cons (ok_land cx (by decide +kernel)) <|
  OkT.cons (ok_lor cx (by decide +kernel)) <|
  OkT.cons (ok_aload_n (kn := 0) rfl cx (by decide +kernel)) <|
  OkT.cons (ok_iload_n (kn := 3) rfl cx (by decide +kernel)) <|
  OkT.cons (ok_iconst (n := 3) cx (by decide +kernel) rfl) <|
  OkT.cons (ok_iadd cx (by decide +kernel)) <|
  OkT.cons (ok_Scr hX hbl hbA cx (by decide +kernel)) <|
  OkT.cons (ok_callV hex rfl rfl (by decide) ca_RL_15 hR hA cx (by decide +kernel)) <|
  OkT.cons (ok_aload_n (kn := 2) rfl cx (by decide +kernel)) <|
  OkT.cons (ok_aload_n (kn := 0) rfl cx (by decide +kernel)) <|
  OkT.cons (ok_iload_n (kn := 3) rfl cx (by decide +kernel)) <|
  OkT.cons (ok_iconst (n := 1) cx (by decide +kernel) rfl) <|
  OkT.cons (ok_iadd cx (by decide +kernel)) <|
  OkT.cons (ok_Scr hX hbl hbA cx (by decide +kernel)) <|
  OkT.cons (ok_i2l cx (by decide +kernel)) <|
  OkT.cons (ok_bipush (n := 32) cx (by decide +kernel) rfl) <|
  OkT.cons (ok_lshl cx (by decide +kernel)) <|
  OkT.cons (ok_aload_n (kn := 0) rfl cx (by decide +kernel)) <|
  OkT.cons (ok_iload_n (kn := 3) rfl cx (by decide +kernel)) <|
  OkT.cons (ok_iconst (n := 2) cx (by decide +kernel) rfl) <|
  OkT.cons (ok_iadd cx (by decide +kernel)) <|
  OkT.cons (ok_Scr hX hbl hbA cx (by decide +kernel)) <|
  OkT.cons (ok_i2l cx (by decide +kernel)) <|
  OkT.cons (ok_ldc2 cx w_1233 (by decide +kernel)) <|
  OkT.cons (ok_land cx (by decide +kernel)) <|
  OkT.cons (ok_lor cx (by decide +kernel)) <|
  OkT.cons (ok_aload_n (kn := 0) rfl cx (by decide +kernel)) <|
  OkT.cons (ok_iload_n (kn := 3) rfl cx (by decide +kernel)) <|
  OkT.cons (ok_iconst (n := 3) cx (by decide +kernel) rfl) <|
  OkT.cons (ok_iadd cx (by decide +kernel)) <|
  OkT.cons (ok_Scr hX hbl hbA cx (by decide +kernel)) <|
  OkT.cons (ok_callV hex rfl rfl (by decide) ca_RL_19 hR hA cx (by decide +kernel)) <|
  OkT.cons (ok_Ic_eq (off := 790) (by decide) cx (by decide +kernel)) <|
  OkT.cons (ok_iconst (n := 0) cx (by decide +kernel) rfl) <|
  OkT.cons (ok_retZ hr (by decide +kernel)) <|
  OkT.cons (ok_aload_n (kn := 1) rfl cx (by decide +kernel)) <|
  OkT.cons (ok_callV hex rfl rfl (by decide) ca_RL_20 hR hA cx (by decide +kernel)) <|
  OkT.cons (ok_aload_n (kn := 2) rfl cx (by decide +kernel)) <|
  OkT.cons (ok_callV hex rfl rfl (by decide) ca_RL_24 hR hA cx (by decide +kernel)) <|
  OkT.cons (ok_Ic_eq (off := 777) (by decide) cx (by decide +kernel)) <|
  OkT.cons (ok_iconst (n := 0) cx (by decide +kernel) rfl) <|
  OkT.cons (ok_retZ hr (by decide +kernel)) <|
  OkT.cons (ok_aload_n (kn := 1) rfl cx (by decide +kernel)) <|
  OkT.cons (ok_callV hex rfl rfl (by decide) ca_RL_25 hR hA cx (by decide +kernel)) <|
  OkT.cons (ok_aload_n (kn := 2) rfl cx (by decide +kernel)) <|
  OkT.cons (ok_callV hex rfl rfl (by decide) ca_RL_28 hR hA cx (by decide +kernel)) <|
  OkT.cons (ok_Ic_eq (off := 764) (by decide) cx (by decide +kernel)) <|
  OkT.cons (ok_iconst (n := 0) cx (by decide +kernel) rfl) <|
  OkT.cons (ok_retZ hr (by decide +kernel)) <|
  OkT.cons (ok_aload_n (kn := 1) rfl cx (by decide +kernel)) <|
  OkT.cons (ok_aload_n (kn := 0) rfl cx (by decide +kernel)) <|
  OkT.cons (ok_iload_n (kn := 3) rfl cx (by decide +kernel)) <|
  OkT.cons (ok_iconst (n := 1) cx (by decide +kernel) rfl) <|
  OkT.cons (ok_iadd cx (by decide +kernel)) <|
  OkT.cons (ok_Scr hX hbl hbA cx (by decide +kernel)) <|
  OkT.cons (ok_aload_n (kn := 0) rfl cx (by decide +kernel)) <|
  OkT.cons (ok_iload_n (kn := 3) rfl cx (by decide +kernel)) <|
  OkT.cons (ok_iconst (n := 2) cx (by decide +kernel) rfl) <|
  OkT.cons (ok_iadd cx (by decide +kernel)) <|
  OkT.cons (ok_Scr hX hbl hbA cx (by decide +kernel)) <|
  OkT.cons (ok_callV hex rfl rfl (by decide) ca_RL_29 hR hA cx (by decide +kernel)) <|
  OkT.cons (ok_aload_n (kn := 2) rfl cx (by decide +kernel)) <|
  OkT.cons (ok_aload_n (kn := 0) rfl cx (by decide +kernel)) <|
  OkT.cons (ok_iload_n (kn := 3) rfl cx (by decide +kernel)) <|
  OkT.cons (ok_iconst (n := 1) cx (by decide +kernel) rfl) <|
  OkT.cons (ok_iadd cx (by decide +kernel)) <|
  OkT.cons (ok_Scr hX hbl hbA cx (by decide +kernel)) <|
  OkT.cons (ok_aload_n (kn := 0) rfl cx (by decide +kernel)) <|
  OkT.cons (ok_iload_n (kn := 3) rfl cx (by decide +kernel)) <|
  OkT.cons (ok_iconst (n := 2) cx (by decide +kernel) rfl) <|
  OkT.cons (ok_iadd cx (by decide +kernel)) <|
  OkT.cons (ok_Scr hX hbl hbA cx (by decide +kernel)) <|
  OkT.cons (ok_callV hex rfl rfl (by decide) ca_RL_33 hR hA cx (by decide +kernel)) <|
  OkT.cons (ok_Ic_eq (off := 731) (by decide) cx (by decide +kernel)) <|
  OkT.cons (ok_iconst (n := 0) cx (by decide +kernel) rfl) <|
  OkT.cons (ok_retZ hr (by decide +kernel)) <|
  OkT.cons (ok_aload_n (kn := 1) rfl cx (by decide +kernel)) <|
  OkT.cons (ok_aload_n (kn := 0) rfl cx (by decide +kernel)) <|
  OkT.cons (ok_iload_n (kn := 3) rfl cx (by decide +kernel)) <|
  OkT.cons (ok_iconst (n := 1) cx (by decide +kernel) rfl) <|
  OkT.cons (ok_iadd cx (by decide +kernel)) <|
  OkT.cons (ok_Scr hX hbl hbA cx (by decide +kernel)) <|
  OkT.cons (ok_aload_n (kn := 0) rfl cx (by decide +kernel)) <|
  OkT.cons (ok_iload_n (kn := 3) rfl cx (by decide +kernel)) <|
  OkT.cons (ok_iconst (n := 2) cx (by decide +kernel) rfl) <|
  OkT.cons (ok_iadd cx (by decide +kernel)) <|
  OkT.cons (ok_Scr hX hbl hbA cx (by decide +kernel)) <|
  OkT.cons (ok_callV hex rfl rfl (by decide) ca_RL_34 hR hA cx (by decide +kernel)) <|
  OkT.cons (ok_aload_n (kn := 2) rfl cx (by decide +kernel)) <|
  OkT.cons (ok_aload_n (kn := 0) rfl cx (by decide +kernel)) <|
  OkT.cons (ok_iload_n (kn := 3) rfl cx (by decide +kernel)) <|
  OkT.cons (ok_iconst (n := 1) cx (by decide +kernel) rfl) <|
  OkT.cons (ok_iadd cx (by decide +kernel)) <|
  OkT.cons (ok_Scr hX hbl hbA cx (by decide +kernel)) <|
  OkT.cons (ok_aload_n (kn := 0) rfl cx (by decide +kernel)) <|
  OkT.cons (ok_iload_n (kn := 3) rfl cx (by decide +kernel)) <|
  OkT.cons (ok_iconst (n := 2) cx (by decide +kernel) rfl) <|
  OkT.cons (ok_iadd cx (by decide +kernel)) <|
  OkT.cons (ok_Scr hX hbl hbA cx (by decide +kernel)) <|
  OkT.cons (ok_callV hex rfl rfl (by decide) ca_RL_37 hR hA cx (by decide +kernel)) <|
  OkT.cons (ok_Ic_eq (off := 698) (by decide) cx (by decide +kernel)) <|
  OkT.cons (ok_iconst (n := 0) cx (by decide +kernel) rfl) <|
  OkT.cons (ok_retZ hr (by decide +kernel)) <|
  OkT.cons (ok_aload_n (kn := 1) rfl cx (by decide +kernel)) <|
  OkT.cons (ok_aload_n (kn := 0) rfl cx (by decide +kernel)) <|
  OkT.cons (ok_iload_n (kn := 3) rfl cx (by decide +kernel)) <|
  OkT.cons (ok_iconst (n := 1) cx (by decide +kernel) rfl) <|
  OkT.cons (ok_iadd cx (by decide +kernel)) <|
  OkT.cons (ok_Scr hX hbl hbA cx (by decide +kernel)) <|
  OkT.cons (ok_aload_n (kn := 0) rfl cx (by decide +kernel)) <|
  OkT.cons (ok_iload_n (kn := 3) rfl cx (by decide +kernel)) <|
  OkT.cons (ok_iconst (n := 2) cx (by decide +kernel) rfl) <|
  OkT.cons (ok_iadd cx (by decide +kernel)) <|
  OkT.cons (ok_Scr hX hbl hbA cx (by decide +kernel)) <|
  OkT.cons (ok_callV hex rfl rfl (by decide) ca_RL_38 hR hA cx (by decide +kernel)) <|
  OkT.cons (ok_aload_n (kn := 2) rfl cx (by decide +kernel)) <|
  OkT.cons (ok_aload_n (kn := 0) rfl cx (by decide +kernel)) <|
  OkT.cons (ok_iload_n (kn := 3) rfl cx (by decide +kernel)) <|
  OkT.cons (ok_iconst (n := 1) cx (by decide +kernel) rfl) <|
  OkT.cons (ok_iadd cx (by decide +kernel)) <|
  OkT.cons (ok_Scr hX hbl hbA cx (by decide +kernel)) <|
  OkT.cons (ok_aload_n (kn := 0) rfl cx (by decide +kernel)) <|
  OkT.cons (ok_iload_n (kn := 3) rfl cx (by decide +kernel)) <|
  OkT.cons (ok_iconst (n := 2) cx (by decide +kernel) rfl) <|
  OkT.cons (ok_iadd cx (by decide +kernel)) <|
  OkT.cons (ok_Scr hX hbl hbA cx (by decide +kernel)) <|
  OkT.cons (ok_callV hex rfl rfl (by decide) ca_RL_41 hR hA cx (by decide +kernel)) <|
  OkT.cons (ok_Ic_eq (off := 665) (by decide) cx (by decide +kernel)) <|
  OkT.cons (ok_iconst (n := 0) cx (by decide +kernel) rfl) <|
  OkT.cons (ok_retZ hr (by decide +kernel)) <|
  OkT.cons (ok_aload_n (kn := 1) rfl cx (by decide +kernel)) <|
  OkT.cons (ok_aload_n (kn := 0) rfl cx (by decide +kernel)) <|
  OkT.cons (ok_iload_n (kn := 3) rfl cx (by decide +kernel)) <|
  OkT.cons (ok_iconst (n := 1) cx (by decide +kernel) rfl) <|
  OkT.cons (ok_iadd cx (by decide +kernel)) <|
  OkT.cons (ok_Scr hX hbl hbA cx (by decide +kernel)) <|
  OkT.cons (ok_callV hex rfl rfl (by decide) ca_RL_42 hR hA cx (by decide +kernel)) <|
  OkT.cons (ok_aload_n (kn := 2) rfl cx (by decide +kernel)) <|
  OkT.cons (ok_aload_n (kn := 0) rfl cx (by decide +kernel)) <|
  OkT.cons (ok_iload_n (kn := 3) rfl cx (by decide +kernel)) <|
  OkT.cons (ok_iconst (n := 1) cx (by decide +kernel) rfl) <|
  OkT.cons (ok_iadd cx (by decide +kernel)) <|
  OkT.cons (ok_Scr hX hbl hbA cx (by decide +kernel)) <|
  OkT.cons (ok_callV hex rfl rfl (by decide) ca_RL_46 hR hA cx (by decide +kernel)) <|
  OkT.cons (ok_Ic_eq (off := 642) (by decide) cx (by decide +kernel)) <|
  OkT.cons (ok_iconst (n := 0) cx (by decide +kernel) rfl) <|
  OkT.cons (ok_retZ hr (by decide +kernel)) <|
  OkT.cons (ok_aload_n (kn := 1) rfl cx (by decide +kernel)) <|
  OkT.cons (ok_aload_n (kn := 0) rfl cx (by decide +kernel)) <|
  OkT.cons (ok_iload_n (kn := 3) rfl cx (by decide +kernel)) <|
  OkT.cons (ok_iconst (n := 1) cx (by decide +kernel) rfl) <|
  OkT.cons (ok_iadd cx (by decide +kernel)) <|
  OkT.cons (ok_Scr hX hbl hbA cx (by decide +kernel)) <|
  OkT.cons (ok_aload_n (kn := 0) rfl cx (by decide +kernel)) <|
  OkT.cons (ok_iload_n (kn := 3) rfl cx (by decide +kernel)) <|
  OkT.cons (ok_iconst (n := 2) cx (by decide +kernel) rfl) <|
  OkT.cons (ok_iadd cx (by decide +kernel)) <|
  OkT.cons (ok_Scr hX hbl hbA cx (by decide +kernel)) <|
  OkT.cons (ok_aload_n (kn := 0) rfl cx (by decide +kernel)) <|
  OkT.cons (ok_iload_n (kn := 3) rfl cx (by decide +kernel)) <|
  OkT.cons (ok_iconst (n := 3) cx (by decide +kernel) rfl) <|
  OkT.cons (ok_iadd cx (by decide +kernel)) <|
  OkT.cons (ok_Scr hX hbl hbA cx (by decide +kernel)) <|
  OkT.cons (ok_callV hex rfl rfl (by decide) ca_RL_47 hR hA cx (by decide +kernel)) <|
  OkT.cons (ok_aload_n (kn := 2) rfl cx (by decide +kernel)) <|
  OkT.cons (ok_aload_n (kn := 0) rfl cx (by decide +kernel)) <|
  OkT.cons (ok_iload_n (kn := 3) rfl cx (by decide +kernel)) <|
  OkT.cons (ok_iconst (n := 1) cx (by decide +kernel) rfl) <|
  OkT.cons (ok_iadd cx (by decide +kernel)) <|
  OkT.cons (ok_Scr hX hbl hbA cx (by decide +kernel)) <|
  OkT.cons (ok_aload_n (kn := 0) rfl cx (by decide +kernel)) <|
  OkT.cons (ok_iload_n (kn := 3) rfl cx (by decide +kernel)) <|
  OkT.cons (ok_iconst (n := 2) cx (by decide +kernel) rfl) <|
  OkT.cons (ok_iadd cx (by decide +kernel)) <|
  OkT.cons (ok_Scr hX hbl hbA cx (by decide +kernel)) <|
  OkT.cons (ok_aload_n (kn := 0) rfl cx (by decide +kernel)) <|
  OkT.cons (ok_iload_n (kn := 3) rfl cx (by decide +kernel)) <|
  OkT.cons (ok_iconst (n := 3) cx (by decide +kernel) rfl) <|
  OkT.cons (ok_iadd cx (by decide +kernel)) <|
  OkT.cons (ok_Scr hX hbl hbA cx (by decide +kernel)) <|
  OkT.cons (ok_callV hex rfl rfl (by decide) ca_RL_51 hR hA cx (by decide +kernel)) <|
  OkT.cons (ok_Ic_eq (off := 599) (by decide) cx (by decide +kernel)) <|
  OkT.cons (ok_iconst (n := 0) cx (by decide +kernel) rfl) <|
  OkT.cons (ok_retZ hr (by decide +kernel)) <|
  OkT.cons (ok_aload_n (kn := 1) rfl cx (by decide +kernel)) <|
  OkT.cons (ok_aload_n (kn := 0) rfl cx (by decide +kernel)) <|
  OkT.cons (ok_iload_n (kn := 3) rfl cx (by decide +kernel)) <|
  OkT.cons (ok_iconst (n := 1) cx (by decide +kernel) rfl) <|
  OkT.cons (ok_iadd cx (by decide +kernel)) <|
  OkT.cons (ok_Scr hX hbl hbA cx (by decide +kernel)) <|
  OkT.cons (ok_aload_n (kn := 0) rfl cx (by decide +kernel)) <|
  OkT.cons (ok_iload_n (kn := 3) rfl cx (by decide +kernel)) <|
  OkT.cons (ok_iconst (n := 2) cx (by decide +kernel) rfl) <|
  OkT.cons (ok_iadd cx (by decide +kernel)) <|
  OkT.cons (ok_Scr hX hbl hbA cx (by decide +kernel)) <|
  OkT.cons (ok_callV hex rfl rfl (by decide) ca_RL_52 hR hA cx (by decide +kernel)) <|
  OkT.cons (ok_aload_n (kn := 2) rfl cx (by decide +kernel)) <|
  OkT.cons (ok_aload_n (kn := 0) rfl cx (by decide +kernel)) <|
  OkT.cons (ok_iload_n (kn := 3) rfl cx (by decide +kernel)) <|
  OkT.cons (ok_iconst (n := 1) cx (by decide +kernel) rfl) <|
  OkT.cons (ok_iadd cx (by decide +kernel)) <|
  OkT.cons (ok_Scr hX hbl hbA cx (by decide +kernel)) <|
  OkT.cons (ok_aload_n (kn := 0) rfl cx (by decide +kernel)) <|
  OkT.cons (ok_iload_n (kn := 3) rfl cx (by decide +kernel)) <|
  OkT.cons (ok_iconst (n := 2) cx (by decide +kernel) rfl) <|
  OkT.cons (ok_iadd cx (by decide +kernel)) <|
  OkT.cons (ok_Scr hX hbl hbA cx (by decide +kernel)) <|
  OkT.cons (ok_callV hex rfl rfl (by decide) ca_RL_55 hR hA cx (by decide +kernel)) <|
  OkT.cons (ok_Ic_eq (off := 566) (by decide) cx (by decide +kernel)) <|
  OkT.cons (ok_iconst (n := 0) cx (by decide +kernel) rfl) <|
  OkT.cons (ok_retZ hr (by decide +kernel)) <|
  OkT.cons (ok_aload_n (kn := 1) rfl cx (by decide +kernel)) <|
  OkT.cons (ok_aload_n (kn := 0) rfl cx (by decide +kernel)) <|
  OkT.cons (ok_iload_n (kn := 3) rfl cx (by decide +kernel)) <|
  OkT.cons (ok_iconst (n := 1) cx (by decide +kernel) rfl) <|
  OkT.cons (ok_iadd cx (by decide +kernel)) <|
  OkT.cons (ok_Scr hX hbl hbA cx (by decide +kernel)) <|
  OkT.cons (ok_aload_n (kn := 0) rfl cx (by decide +kernel)) <|
  OkT.cons (ok_iload_n (kn := 3) rfl cx (by decide +kernel)) <|
  OkT.cons (ok_iconst (n := 2) cx (by decide +kernel) rfl) <|
  OkT.cons (ok_iadd cx (by decide +kernel)) <|
  OkT.cons (ok_Scr hX hbl hbA cx (by decide +kernel)) <|
  OkT.cons (ok_callV hex rfl rfl (by decide) ca_RL_56 hR hA cx (by decide +kernel)) <|
  OkT.cons (ok_aload_n (kn := 2) rfl cx (by decide +kernel)) <|
  OkT.cons (ok_aload_n (kn := 0) rfl cx (by decide +kernel)) <|
  OkT.cons (ok_iload_n (kn := 3) rfl cx (by decide +kernel)) <|
  OkT.cons (ok_iconst (n := 1) cx (by decide +kernel) rfl) <|
  OkT.cons (ok_iadd cx (by decide +kernel)) <|
  OkT.cons (ok_Scr hX hbl hbA cx (by decide +kernel)) <|
  OkT.cons (ok_aload_n (kn := 0) rfl cx (by decide +kernel)) <|
  OkT.cons (ok_iload_n (kn := 3) rfl cx (by decide +kernel)) <|
  OkT.cons (ok_iconst (n := 2) cx (by decide +kernel) rfl) <|
  OkT.cons (ok_iadd cx (by decide +kernel)) <|
  OkT.cons (ok_Scr hX hbl hbA cx (by decide +kernel)) <|
  OkT.cons (ok_callV hex rfl rfl (by decide) ca_RL_59 hR hA cx (by decide +kernel)) <|
  OkT.cons (ok_Ic_eq (off := 533) (by decide) cx (by decide +kernel)) <|
  OkT.cons (ok_iconst (n := 0) cx (by decide +kernel) rfl) <|
  OkT.cons (ok_retZ hr (by decide +kernel)) <|
  OkT.cons (ok_aload_n (kn := 1) rfl cx (by decide +kernel)) <|
  OkT.cons (ok_aload_n (kn := 0) rfl cx (by decide +kernel)) <|
  OkT.cons (ok_iload_n (kn := 3) rfl cx (by decide +kernel)) <|
  OkT.cons (ok_iconst (n := 1) cx (by decide +kernel) rfl) <|
  OkT.cons (ok_iadd cx (by decide +kernel)) <|
  OkT.cons (ok_Scr hX hbl hbA cx (by decide +kernel)) <|
  OkT.cons (ok_aload_n (kn := 0) rfl cx (by decide +kernel)) <|
  OkT.cons (ok_iload_n (kn := 3) rfl cx (by decide +kernel)) <|
  OkT.cons (ok_iconst (n := 2) cx (by decide +kernel) rfl) <|
  OkT.cons (ok_iadd cx (by decide +kernel)) <|
  OkT.cons (ok_Scr hX hbl hbA cx (by decide +kernel)) <|
  OkT.cons (ok_aload_n (kn := 0) rfl cx (by decide +kernel)) <|
  OkT.cons (ok_iload_n (kn := 3) rfl cx (by decide +kernel)) <|
  OkT.cons (ok_iconst (n := 3) cx (by decide +kernel) rfl) <|
  OkT.cons (ok_iadd cx (by decide +kernel)) <|
  OkT.cons (ok_Scr hX hbl hbA cx (by decide +kernel)) <|
  OkT.cons (ok_callV hex rfl rfl (by decide) ca_RL_60 hR hA cx (by decide +kernel)) <|
  OkT.cons (ok_aload_n (kn := 2) rfl cx (by decide +kernel)) <|
  OkT.cons (ok_aload_n (kn := 0) rfl cx (by decide +kernel)) <|
  OkT.cons (ok_iload_n (kn := 3) rfl cx (by decide +kernel)) <|
  OkT.cons (ok_iconst (n := 1) cx (by decide +kernel) rfl) <|
  OkT.cons (ok_iadd cx (by decide +kernel)) <|
  OkT.cons (ok_Scr hX hbl hbA cx (by decide +kernel)) <|
  OkT.cons (ok_aload_n (kn := 0) rfl cx (by decide +kernel)) <|
  OkT.cons (ok_iload_n (kn := 3) rfl cx (by decide +kernel)) <|
  OkT.cons (ok_iconst (n := 2) cx (by decide +kernel) rfl) <|
  OkT.cons (ok_iadd cx (by decide +kernel)) <|
  OkT.cons (ok_Scr hX hbl hbA cx (by decide +kernel)) <|
  OkT.cons (ok_aload_n (kn := 0) rfl cx (by decide +kernel)) <|
  OkT.cons (ok_iload_n (kn := 3) rfl cx (by decide +kernel)) <|
  OkT.cons (ok_iconst (n := 3) cx (by decide +kernel) rfl) <|
  OkT.cons (ok_iadd cx (by decide +kernel)) <|
  OkT.cons (ok_Scr hX hbl hbA cx (by decide +kernel)) <|
  OkT.cons (ok_callV hex rfl rfl (by decide) ca_RL_63 hR hA cx (by decide +kernel)) <|
  OkT.cons (ok_Ic_eq (off := 490) (by decide) cx (by decide +kernel)) <|
  OkT.cons (ok_iconst (n := 0) cx (by decide +kernel) rfl) <|
  OkT.cons (ok_retZ hr (by decide +kernel)) <|
  OkT.cons (ok_aload_n (kn := 1) rfl cx (by decide +kernel)) <|
  OkT.cons (ok_callV hex rfl rfl (by decide) ca_RL_64 hR hA cx (by decide +kernel)) <|
  OkT.cons (ok_aload_n (kn := 2) rfl cx (by decide +kernel)) <|
  OkT.cons (ok_callV hex rfl rfl (by decide) ca_RL_67 hR hA cx (by decide +kernel)) <|
  OkT.cons (ok_Ic_eq (off := 477) (by decide) cx (by decide +kernel)) <|
  OkT.cons (ok_iconst (n := 0) cx (by decide +kernel) rfl) <|
  OkT.cons (ok_retZ hr (by decide +kernel)) <|
  OkT.cons (ok_aload_n (kn := 1) rfl cx (by decide +kernel)) <|
  OkT.cons (ok_aload_n (kn := 0) rfl cx (by decide +kernel)) <|
  OkT.cons (ok_iload_n (kn := 3) rfl cx (by decide +kernel)) <|
  OkT.cons (ok_iconst (n := 1) cx (by decide +kernel) rfl) <|
  OkT.cons (ok_iadd cx (by decide +kernel)) <|
  OkT.cons (ok_Scr hX hbl hbA cx (by decide +kernel)) <|
  OkT.cons (ok_callV hex rfl rfl (by decide) ca_RL_68 hR hA cx (by decide +kernel)) <|
  OkT.cons (ok_aload_n (kn := 2) rfl cx (by decide +kernel)) <|
  OkT.cons (ok_aload_n (kn := 0) rfl cx (by decide +kernel)) <|
  OkT.cons (ok_iload_n (kn := 3) rfl cx (by decide +kernel)) <|
  OkT.cons (ok_iconst (n := 1) cx (by decide +kernel) rfl) <|
  OkT.cons (ok_iadd cx (by decide +kernel)) <|
  OkT.cons (ok_Scr hX hbl hbA cx (by decide +kernel)) <|
  OkT.cons (ok_callV hex rfl rfl (by decide) ca_RL_71 hR hA cx (by decide +kernel)) <|
  OkT.cons (ok_Ic_eq (off := 454) (by decide) cx (by decide +kernel)) <|
  OkT.cons (ok_iconst (n := 0) cx (by decide +kernel) rfl) <|
  OkT.cons (ok_retZ hr (by decide +kernel)) <|
  OkT.cons (ok_aload_n (kn := 1) rfl cx (by decide +kernel)) <|
  OkT.cons (ok_aload_n (kn := 0) rfl cx (by decide +kernel)) <|
  OkT.cons (ok_iload_n (kn := 3) rfl cx (by decide +kernel)) <|
  OkT.cons (ok_iconst (n := 1) cx (by decide +kernel) rfl) <|
  OkT.cons (ok_iadd cx (by decide +kernel)) <|
  OkT.cons (ok_Scr hX hbl hbA cx (by decide +kernel)) <|
  OkT.cons (ok_aload_n (kn := 0) rfl cx (by decide +kernel)) <|
  OkT.cons (ok_iload_n (kn := 3) rfl cx (by decide +kernel)) <|
  OkT.cons (ok_iconst (n := 2) cx (by decide +kernel) rfl) <|
  OkT.cons (ok_iadd cx (by decide +kernel)) <|
  OkT.cons (ok_Scr hX hbl hbA cx (by decide +kernel)) <|
  OkT.cons (ok_aload_n (kn := 0) rfl cx (by decide +kernel)) <|
  OkT.cons (ok_iload_n (kn := 3) rfl cx (by decide +kernel)) <|
  OkT.cons (ok_iconst (n := 3) cx (by decide +kernel) rfl) <|
  OkT.cons (ok_iadd cx (by decide +kernel)) <|
  OkT.cons (ok_Scr hX hbl hbA cx (by decide +kernel)) <|
  OkT.cons (ok_aload_n (kn := 0) rfl cx (by decide +kernel)) <|
  OkT.cons (ok_iload_n (kn := 3) rfl cx (by decide +kernel)) <|
  OkT.cons (ok_iconst (n := 4) cx (by decide +kernel) rfl) <|
  OkT.cons (ok_iadd cx (by decide +kernel)) <|
  OkT.cons (ok_Scr hX hbl hbA cx (by decide +kernel)) <|
  OkT.cons (ok_callV hex rfl rfl (by decide) ca_RL_72 hR hA cx (by decide +kernel)) <|
  OkT.cons (ok_aload_n (kn := 2) rfl cx (by decide +kernel)) <|
  OkT.cons (ok_aload_n (kn := 0) rfl cx (by decide +kernel)) <|
  OkT.cons (ok_iload_n (kn := 3) rfl cx (by decide +kernel)) <|
  OkT.cons (ok_iconst (n := 1) cx (by decide +kernel) rfl) <|
  OkT.cons (ok_iadd cx (by decide +kernel)) <|
  OkT.cons (ok_Scr hX hbl hbA cx (by decide +kernel)) <|
  OkT.cons (ok_aload_n (kn := 0) rfl cx (by decide +kernel)) <|
  OkT.cons (ok_iload_n (kn := 3) rfl cx (by decide +kernel)) <|
  OkT.cons (ok_iconst (n := 2) cx (by decide +kernel) rfl) <|
  OkT.cons (ok_iadd cx (by decide +kernel)) <|
  OkT.cons (ok_Scr hX hbl hbA cx (by decide +kernel)) <|
  OkT.cons (ok_aload_n (kn := 0) rfl cx (by decide +kernel)) <|
  OkT.cons (ok_iload_n (kn := 3) rfl cx (by decide +kernel)) <|
  OkT.cons (ok_iconst (n := 3) cx (by decide +kernel) rfl) <|
  OkT.cons (ok_iadd cx (by decide +kernel)) <|
  OkT.cons (ok_Scr hX hbl hbA cx (by decide +kernel)) <|
  OkT.cons (ok_aload_n (kn := 0) rfl cx (by decide +kernel)) <|
  OkT.cons (ok_iload_n (kn := 3) rfl cx (by decide +kernel)) <|
  OkT.cons (ok_iconst (n := 4) cx (by decide +kernel) rfl) <|
  OkT.cons (ok_iadd cx (by decide +kernel)) <|
  OkT.cons (ok_Scr hX hbl hbA cx (by decide +kernel)) <|
  OkT.cons (ok_callV hex rfl rfl (by decide) ca_RL_76 hR hA cx (by decide +kernel)) <|
  OkT.cons (ok_Ic_eq (off := 401) (by decide) cx (by decide +kernel)) <|
  OkT.cons (ok_iconst (n := 0) cx (by decide +kernel) rfl) <|
  OkT.cons (ok_retZ hr (by decide +kernel)) <|
  OkT.cons (ok_aload_n (kn := 1) rfl cx (by decide +kernel)) <|
  OkT.cons (ok_aload_n (kn := 0) rfl cx (by decide +kernel)) <|
  OkT.cons (ok_iload_n (kn := 3) rfl cx (by decide +kernel)) <|
  OkT.cons (ok_iconst (n := 1) cx (by decide +kernel) rfl) <|
  OkT.cons (ok_iadd cx (by decide +kernel)) <|
  OkT.cons (ok_Scr hX hbl hbA cx (by decide +kernel)) <|
  OkT.cons (ok_aload_n (kn := 0) rfl cx (by decide +kernel)) <|
  OkT.cons (ok_iload_n (kn := 3) rfl cx (by decide +kernel)) <|
  OkT.cons (ok_iconst (n := 2) cx (by decide +kernel) rfl) <|
  OkT.cons (ok_iadd cx (by decide +kernel)) <|
  OkT.cons (ok_Scr hX hbl hbA cx (by decide +kernel)) <|
  OkT.cons (ok_callV hex rfl rfl (by decide) ca_RL_77 hR hA cx (by decide +kernel)) <|
  OkT.cons (ok_aload_n (kn := 2) rfl cx (by decide +kernel)) <|
  OkT.cons (ok_aload_n (kn := 0) rfl cx (by decide +kernel)) <|
  OkT.cons (ok_iload_n (kn := 3) rfl cx (by decide +kernel)) <|
  OkT.cons (ok_iconst (n := 1) cx (by decide +kernel) rfl) <|
  OkT.cons (ok_iadd cx (by decide +kernel)) <|
  OkT.cons (ok_Scr hX hbl hbA cx (by decide +kernel)) <|
  OkT.cons (ok_aload_n (kn := 0) rfl cx (by decide +kernel)) <|
  OkT.cons (ok_iload_n (kn := 3) rfl cx (by decide +kernel)) <|
  OkT.cons (ok_iconst (n := 2) cx (by decide +kernel) rfl) <|
  OkT.cons (ok_iadd cx (by decide +kernel)) <|
  OkT.cons (ok_Scr hX hbl hbA cx (by decide +kernel)) <|
  OkT.cons (ok_callV hex rfl rfl (by decide) ca_RL_80 hR hA cx (by decide +kernel)) <|
  OkT.cons (ok_Ic_eq (off := 368) (by decide) cx (by decide +kernel)) <|
  OkT.cons (ok_iconst (n := 0) cx (by decide +kernel) rfl) <|
  OkT.cons (ok_retZ hr (by decide +kernel)) <|
  OkT.cons (ok_aload_n (kn := 1) rfl cx (by decide +kernel)) <|
  OkT.cons (ok_aload_n (kn := 0) rfl cx (by decide +kernel)) <|
  OkT.cons (ok_iload_n (kn := 3) rfl cx (by decide +kernel)) <|
  OkT.cons (ok_iconst (n := 1) cx (by decide +kernel) rfl) <|
  OkT.cons (ok_iadd cx (by decide +kernel)) <|
  OkT.cons (ok_Scr hX hbl hbA cx (by decide +kernel)) <|
  OkT.cons (ok_aload_n (kn := 0) rfl cx (by decide +kernel)) <|
  OkT.cons (ok_iload_n (kn := 3) rfl cx (by decide +kernel)) <|
  OkT.cons (ok_iconst (n := 2) cx (by decide +kernel) rfl) <|
  OkT.cons (ok_iadd cx (by decide +kernel)) <|
  OkT.cons (ok_Scr hX hbl hbA cx (by decide +kernel)) <|
  OkT.cons (ok_callV hex rfl rfl (by decide) ca_RL_81 hR hA cx (by decide +kernel)) <|
  OkT.cons (ok_aload_n (kn := 2) rfl cx (by decide +kernel)) <|
  OkT.cons (ok_aload_n (kn := 0) rfl cx (by decide +kernel)) <|
  OkT.cons (ok_iload_n (kn := 3) rfl cx (by decide +kernel)) <|
  OkT.cons (ok_iconst (n := 1) cx (by decide +kernel) rfl) <|
  OkT.cons (ok_iadd cx (by decide +kernel)) <|
  OkT.cons (ok_Scr hX hbl hbA cx (by decide +kernel)) <|
  OkT.cons (ok_aload_n (kn := 0) rfl cx (by decide +kernel)) <|
  OkT.cons (ok_iload_n (kn := 3) rfl cx (by decide +kernel)) <|
  OkT.cons (ok_iconst (n := 2) cx (by decide +kernel) rfl) <|
  OkT.cons (ok_iadd cx (by decide +kernel)) <|
  OkT.cons (ok_Scr hX hbl hbA cx (by decide +kernel)) <|
  OkT.cons (ok_callV hex rfl rfl (by decide) ca_RL_84 hR hA cx (by decide +kernel)) <|
  OkT.cons (ok_Ic_eq (off := 335) (by decide) cx (by decide +kernel)) <|
  OkT.cons (ok_iconst (n := 0) cx (by decide +kernel) rfl) <|
  OkT.cons (ok_retZ hr (by decide +kernel)) <|
  OkT.cons (ok_aload_n (kn := 1) rfl cx (by decide +kernel)) <|
  OkT.cons (ok_aload_n (kn := 0) rfl cx (by decide +kernel)) <|
  OkT.cons (ok_iload_n (kn := 3) rfl cx (by decide +kernel)) <|
  OkT.cons (ok_iconst (n := 1) cx (by decide +kernel) rfl) <|
  OkT.cons (ok_iadd cx (by decide +kernel)) <|
  OkT.cons (ok_Scr hX hbl hbA cx (by decide +kernel)) <|
  OkT.cons (ok_aload_n (kn := 0) rfl cx (by decide +kernel)) <|
  OkT.cons (ok_iload_n (kn := 3) rfl cx (by decide +kernel)) <|
  OkT.cons (ok_iconst (n := 2) cx (by decide +kernel) rfl) <|
  OkT.cons (ok_iadd cx (by decide +kernel)) <|
  OkT.cons (ok_Scr hX hbl hbA cx (by decide +kernel)) <|
  OkT.cons (ok_callV hex rfl rfl (by decide) ca_RL_85 hR hA cx (by decide +kernel)) <|
  OkT.cons (ok_aload_n (kn := 2) rfl cx (by decide +kernel)) <|
  OkT.cons (ok_aload_n (kn := 0) rfl cx (by decide +kernel)) <|
  OkT.cons (ok_iload_n (kn := 3) rfl cx (by decide +kernel)) <|
  OkT.cons (ok_iconst (n := 1) cx (by decide +kernel) rfl) <|
  OkT.cons (ok_iadd cx (by decide +kernel)) <|
  OkT.cons (ok_Scr hX hbl hbA cx (by decide +kernel)) <|
  OkT.cons (ok_aload_n (kn := 0) rfl cx (by decide +kernel)) <|
  OkT.cons (ok_iload_n (kn := 3) rfl cx (by decide +kernel)) <|
  OkT.cons (ok_iconst (n := 2) cx (by decide +kernel) rfl) <|
  OkT.cons (ok_iadd cx (by decide +kernel)) <|
  OkT.cons (ok_Scr hX hbl hbA cx (by decide +kernel)) <|
  OkT.cons (ok_callV hex rfl rfl (by decide) ca_RL_88 hR hA cx (by decide +kernel)) <|
  OkT.cons (ok_Ic_eq (off := 302) (by decide) cx (by decide +kernel)) <|
  OkT.cons (ok_iconst (n := 0) cx (by decide +kernel) rfl) <|
  OkT.cons (ok_retZ hr (by decide +kernel)) <|
  OkT.cons (ok_aload_n (kn := 1) rfl cx (by decide +kernel)) <|
  OkT.cons (ok_callV hex rfl rfl (by decide) ca_RL_89 hR hA cx (by decide +kernel)) <|
  OkT.cons (ok_aload_n (kn := 2) rfl cx (by decide +kernel)) <|
  OkT.cons (ok_callV hex rfl rfl (by decide) ca_RL_92 hR hA cx (by decide +kernel)) <|
  OkT.cons (ok_Ic_eq (off := 289) (by decide) cx (by decide +kernel)) <|
  OkT.cons (ok_iconst (n := 0) cx (by decide +kernel) rfl) <|
  OkT.cons (ok_retZ hr (by decide +kernel)) <|
  OkT.cons (ok_aload_n (kn := 1) rfl cx (by decide +kernel)) <|
  OkT.cons (ok_callV hex rfl rfl (by decide) ca_RL_93 hR hA cx (by decide +kernel)) <|
  OkT.cons (ok_aload_n (kn := 2) rfl cx (by decide +kernel)) <|
  OkT.cons (ok_callV hex rfl rfl (by decide) ca_RL_96 hR hA cx (by decide +kernel)) <|
  OkT.cons (ok_Ic_eq (off := 276) (by decide) cx (by decide +kernel)) <|
  OkT.cons (ok_iconst (n := 0) cx (by decide +kernel) rfl) <|
  OkT.cons (ok_retZ hr (by decide +kernel)) <|
  OkT.cons (ok_aload_n (kn := 1) rfl cx (by decide +kernel)) <|
  OkT.cons (ok_aload_n (kn := 0) rfl cx (by decide +kernel)) <|
  OkT.cons (ok_iload_n (kn := 3) rfl cx (by decide +kernel)) <|
  OkT.cons (ok_iconst (n := 1) cx (by decide +kernel) rfl) <|
  OkT.cons (ok_iadd cx (by decide +kernel)) <|
  OkT.cons (ok_Scr hX hbl hbA cx (by decide +kernel)) <|
  OkT.cons (ok_callV hex rfl rfl (by decide) ca_RL_97 hR hA cx (by decide +kernel)) <|
  OkT.cons (ok_aload_n (kn := 2) rfl cx (by decide +kernel)) <|
  OkT.cons (ok_aload_n (kn := 0) rfl cx (by decide +kernel)) <|
  OkT.cons (ok_iload_n (kn := 3) rfl cx (by decide +kernel)) <|
  OkT.cons (ok_iconst (n := 1) cx (by decide +kernel) rfl) <|
  OkT.cons (ok_iadd cx (by decide +kernel)) <|
  OkT.cons (ok_Scr hX hbl hbA cx (by decide +kernel)) <|
  OkT.cons (ok_callV hex rfl rfl (by decide) ca_RL_100 hR hA cx (by decide +kernel)) <|
  OkT.cons (ok_Ic_eq (off := 253) (by decide) cx (by decide +kernel)) <|
  OkT.cons (ok_iconst (n := 0) cx (by decide +kernel) rfl) <|
  OkT.cons (ok_retZ hr (by decide +kernel)) <|
  OkT.cons (ok_aload_n (kn := 1) rfl cx (by decide +kernel)) <|
  OkT.cons (ok_callV hex rfl rfl (by decide) ca_RL_101 hR hA cx (by decide +kernel)) <|
  OkT.cons (ok_aload_n (kn := 2) rfl cx (by decide +kernel)) <|
  OkT.cons (ok_callV hex rfl rfl (by decide) ca_RL_104 hR hA cx (by decide +kernel)) <|
  OkT.cons (ok_Ic_eq (off := 240) (by decide) cx (by decide +kernel)) <|
  OkT.cons (ok_iconst (n := 0) cx (by decide +kernel) rfl) <|
  OkT.cons (ok_retZ hr (by decide +kernel)) <|
  OkT.cons (ok_aload_n (kn := 1) rfl cx (by decide +kernel)) <|
  OkT.cons (ok_aload_n (kn := 0) rfl cx (by decide +kernel)) <|
  OkT.cons (ok_iload_n (kn := 3) rfl cx (by decide +kernel)) <|
  OkT.cons (ok_iconst (n := 1) cx (by decide +kernel) rfl) <|
  OkT.cons (ok_iadd cx (by decide +kernel)) <|
  OkT.cons (ok_Scr hX hbl hbA cx (by decide +kernel)) <|
  OkT.cons (ok_aload_n (kn := 0) rfl cx (by decide +kernel)) <|
  OkT.cons (ok_iload_n (kn := 3) rfl cx (by decide +kernel)) <|
  OkT.cons (ok_iconst (n := 2) cx (by decide +kernel) rfl) <|
  OkT.cons (ok_iadd cx (by decide +kernel)) <|
  OkT.cons (ok_Scr hX hbl hbA cx (by decide +kernel)) <|
  OkT.cons (ok_aload_n (kn := 0) rfl cx (by decide +kernel)) <|
  OkT.cons (ok_iload_n (kn := 3) rfl cx (by decide +kernel)) <|
  OkT.cons (ok_iconst (n := 3) cx (by decide +kernel) rfl) <|
  OkT.cons (ok_iadd cx (by decide +kernel)) <|
  OkT.cons (ok_Scr hX hbl hbA cx (by decide +kernel)) <|
  OkT.cons (ok_aload_n (kn := 0) rfl cx (by decide +kernel)) <|
  OkT.cons (ok_iload_n (kn := 3) rfl cx (by decide +kernel)) <|
  OkT.cons (ok_iconst (n := 4) cx (by decide +kernel) rfl) <|
  OkT.cons (ok_iadd cx (by decide +kernel)) <|
  OkT.cons (ok_Scr hX hbl hbA cx (by decide +kernel)) <|
  OkT.cons (ok_aload_n (kn := 0) rfl cx (by decide +kernel)) <|
  OkT.cons (ok_iload_n (kn := 3) rfl cx (by decide +kernel)) <|
  OkT.cons (ok_iconst (n := 5) cx (by decide +kernel) rfl) <|
  OkT.cons (ok_iadd cx (by decide +kernel)) <|
  OkT.cons (ok_Scr hX hbl hbA cx (by decide +kernel)) <|
  OkT.cons (ok_aload_n (kn := 0) rfl cx (by decide +kernel)) <|
  OkT.cons (ok_iload_n (kn := 3) rfl cx (by decide +kernel)) <|
  OkT.cons (ok_bipush (n := 6) cx (by decide +kernel) rfl) <|
  OkT.cons (ok_iadd cx (by decide +kernel)) <|
  OkT.cons (ok_Scr hX hbl hbA cx (by decide +kernel)) <|
  OkT.cons (ok_callV hex rfl rfl (by decide) ca_RL_105 hR hA cx (by decide +kernel)) <|
  OkT.cons (ok_aload_n (kn := 2) rfl cx (by decide +kernel)) <|
  OkT.cons (ok_aload_n (kn := 0) rfl cx (by decide +kernel)) <|
  OkT.cons (ok_iload_n (kn := 3) rfl cx (by decide +kernel)) <|
  OkT.cons (ok_iconst (n := 1) cx (by decide +kernel) rfl) <|
  OkT.cons (ok_iadd cx (by decide +kernel)) <|
  OkT.cons (ok_Scr hX hbl hbA cx (by decide +kernel)) <|
  OkT.cons (ok_aload_n (kn := 0) rfl cx (by decide +kernel)) <|
  OkT.cons (ok_iload_n (kn := 3) rfl cx (by decide +kernel)) <|
  OkT.cons (ok_iconst (n := 2) cx (by decide +kernel) rfl) <|
  OkT.cons (ok_iadd cx (by decide +kernel)) <|
  OkT.cons (ok_Scr hX hbl hbA cx (by decide +kernel)) <|
  OkT.cons (ok_aload_n (kn := 0) rfl cx (by decide +kernel)) <|
  OkT.cons (ok_iload_n (kn := 3) rfl cx (by decide +kernel)) <|
  OkT.cons (ok_iconst (n := 3) cx (by decide +kernel) rfl) <|
  OkT.cons (ok_iadd cx (by decide +kernel)) <|
  OkT.cons (ok_Scr hX hbl hbA cx (by decide +kernel)) <|
  OkT.cons (ok_aload_n (kn := 0) rfl cx (by decide +kernel)) <|
  OkT.cons (ok_iload_n (kn := 3) rfl cx (by decide +kernel)) <|
  OkT.cons (ok_iconst (n := 4) cx (by decide +kernel) rfl) <|
  OkT.cons (ok_iadd cx (by decide +kernel)) <|
  OkT.cons (ok_Scr hX hbl hbA cx (by decide +kernel)) <|
  OkT.cons (ok_aload_n (kn := 0) rfl cx (by decide +kernel)) <|
  OkT.cons (ok_iload_n (kn := 3) rfl cx (by decide +kernel)) <|
  OkT.cons (ok_iconst (n := 5) cx (by decide +kernel) rfl) <|
  OkT.cons (ok_iadd cx (by decide +kernel)) <|
  OkT.cons (ok_Scr hX hbl hbA cx (by decide +kernel)) <|
  OkT.cons (ok_aload_n (kn := 0) rfl cx (by decide +kernel)) <|
  OkT.cons (ok_iload_n (kn := 3) rfl cx (by decide +kernel)) <|
  OkT.cons (ok_bipush (n := 6) cx (by decide +kernel) rfl) <|
  OkT.cons (ok_iadd cx (by decide +kernel)) <|
  OkT.cons (ok_Scr hX hbl hbA cx (by decide +kernel)) <|
  OkT.cons (ok_callV hex rfl rfl (by decide) ca_RL_109 hR hA cx (by decide +kernel)) <|
  OkT.cons (ok_Ic_eq (off := 165) (by decide) cx (by decide +kernel)) <|
  OkT.cons (ok_iconst (n := 0) cx (by decide +kernel) rfl) <|
  OkT.cons (ok_retZ hr (by decide +kernel)) <|
  OkT.cons (ok_aload_n (kn := 1) rfl cx (by decide +kernel)) <|
  OkT.cons (ok_aload_n (kn := 0) rfl cx (by decide +kernel)) <|
  OkT.cons (ok_iload_n (kn := 3) rfl cx (by decide +kernel)) <|
  OkT.cons (ok_iconst (n := 1) cx (by decide +kernel) rfl) <|
  OkT.cons (ok_iadd cx (by decide +kernel)) <|
  OkT.cons (ok_Scr hX hbl hbA cx (by decide +kernel)) <|
  OkT.cons (ok_aload_n (kn := 0) rfl cx (by decide +kernel)) <|
  OkT.cons (ok_iload_n (kn := 3) rfl cx (by decide +kernel)) <|
  OkT.cons (ok_iconst (n := 2) cx (by decide +kernel) rfl) <|
  OkT.cons (ok_iadd cx (by decide +kernel)) <|
  OkT.cons (ok_Scr hX hbl hbA cx (by decide +kernel)) <|
  OkT.cons (ok_aload_n (kn := 0) rfl cx (by decide +kernel)) <|
  OkT.cons (ok_iload_n (kn := 3) rfl cx (by decide +kernel)) <|
  OkT.cons (ok_iconst (n := 3) cx (by decide +kernel) rfl) <|
  OkT.cons (ok_iadd cx (by decide +kernel)) <|
  OkT.cons (ok_Scr hX hbl hbA cx (by decide +kernel)) <|
  OkT.cons (ok_callV hex rfl rfl (by decide) ca_RL_110 hR hA cx (by decide +kernel)) <|
  OkT.cons (ok_aload_n (kn := 2) rfl cx (by decide +kernel)) <|
  OkT.cons (ok_aload_n (kn := 0) rfl cx (by decide +kernel)) <|
  OkT.cons (ok_iload_n (kn := 3) rfl cx (by decide +kernel)) <|
  OkT.cons (ok_iconst (n := 1) cx (by decide +kernel) rfl) <|
  OkT.cons (ok_iadd cx (by decide +kernel)) <|
  OkT.cons (ok_Scr hX hbl hbA cx (by decide +kernel)) <|
  OkT.cons (ok_aload_n (kn := 0) rfl cx (by decide +kernel)) <|
  OkT.cons (ok_iload_n (kn := 3) rfl cx (by decide +kernel)) <|
  OkT.cons (ok_iconst (n := 2) cx (by decide +kernel) rfl) <|
  OkT.cons (ok_iadd cx (by decide +kernel)) <|
  OkT.cons (ok_Scr hX hbl hbA cx (by decide +kernel)) <|
  OkT.cons (ok_aload_n (kn := 0) rfl cx (by decide +kernel)) <|
  OkT.cons (ok_iload_n (kn := 3) rfl cx (by decide +kernel)) <|
  OkT.cons (ok_iconst (n := 3) cx (by decide +kernel) rfl) <|
  OkT.cons (ok_iadd cx (by decide +kernel)) <|
  OkT.cons (ok_Scr hX hbl hbA cx (by decide +kernel)) <|
  OkT.cons (ok_callV hex rfl rfl (by decide) ca_RL_114 hR hA cx (by decide +kernel)) <|
  OkT.cons (ok_lcmp cx (by decide +kernel)) <|
  OkT.cons (ok_If_eq (off := 121) (by decide) cx (by decide +kernel)) <|
  OkT.cons (ok_iconst (n := 0) cx (by decide +kernel) rfl) <|
  OkT.cons (ok_retZ hr (by decide +kernel)) <|
  OkT.cons (ok_aload_n (kn := 1) rfl cx (by decide +kernel)) <|
  OkT.cons (ok_aload_n (kn := 0) rfl cx (by decide +kernel)) <|
  OkT.cons (ok_iload_n (kn := 3) rfl cx (by decide +kernel)) <|
  OkT.cons (ok_iconst (n := 1) cx (by decide +kernel) rfl) <|
  OkT.cons (ok_iadd cx (by decide +kernel)) <|
  OkT.cons (ok_Scr hX hbl hbA cx (by decide +kernel)) <|
  OkT.cons (ok_aload_n (kn := 0) rfl cx (by decide +kernel)) <|
  OkT.cons (ok_iload_n (kn := 3) rfl cx (by decide +kernel)) <|
  OkT.cons (ok_iconst (n := 2) cx (by decide +kernel) rfl) <|
  OkT.cons (ok_iadd cx (by decide +kernel)) <|
  OkT.cons (ok_Scr hX hbl hbA cx (by decide +kernel)) <|
  OkT.cons (ok_callV hex rfl rfl (by decide) ca_RL_115 hR hA cx (by decide +kernel)) <|
  OkT.cons (ok_aload_n (kn := 2) rfl cx (by decide +kernel)) <|
  OkT.cons (ok_aload_n (kn := 0) rfl cx (by decide +kernel)) <|
  OkT.cons (ok_iload_n (kn := 3) rfl cx (by decide +kernel)) <|
  OkT.cons (ok_iconst (n := 1) cx (by decide +kernel) rfl) <|
  OkT.cons (ok_iadd cx (by decide +kernel)) <|
  OkT.cons (ok_Scr hX hbl hbA cx (by decide +kernel)) <|
  OkT.cons (ok_aload_n (kn := 0) rfl cx (by decide +kernel)) <|
  OkT.cons (ok_iload_n (kn := 3) rfl cx (by decide +kernel)) <|
  OkT.cons (ok_iconst (n := 2) cx (by decide +kernel) rfl) <|
  OkT.cons (ok_iadd cx (by decide +kernel)) <|
  OkT.cons (ok_Scr hX hbl hbA cx (by decide +kernel)) <|
  OkT.cons (ok_callV hex rfl rfl (by decide) ca_RL_118 hR hA cx (by decide +kernel)) <|
  OkT.cons (ok_Ic_eq (off := 88) (by decide) cx (by decide +kernel)) <|
  OkT.cons (ok_iconst (n := 0) cx (by decide +kernel) rfl) <|
  OkT.cons (ok_retZ hr (by decide +kernel)) <|
  OkT.cons (ok_aload_n (kn := 1) rfl cx (by decide +kernel)) <|
  OkT.cons (ok_aload_n (kn := 0) rfl cx (by decide +kernel)) <|
  OkT.cons (ok_iload_n (kn := 3) rfl cx (by decide +kernel)) <|
  OkT.cons (ok_iconst (n := 1) cx (by decide +kernel) rfl) <|
  OkT.cons (ok_iadd cx (by decide +kernel)) <|
  OkT.cons (ok_Scr hX hbl hbA cx (by decide +kernel)) <|
  OkT.cons (ok_callV hex rfl rfl (by decide) ca_RL_119 hR hA cx (by decide +kernel)) <|
  OkT.cons (ok_aload_n (kn := 2) rfl cx (by decide +kernel)) <|
  OkT.cons (ok_aload_n (kn := 0) rfl cx (by decide +kernel)) <|
  OkT.cons (ok_iload_n (kn := 3) rfl cx (by decide +kernel)) <|
  OkT.cons (ok_iconst (n := 1) cx (by decide +kernel) rfl) <|
  OkT.cons (ok_iadd cx (by decide +kernel)) <|
  OkT.cons (ok_Scr hX hbl hbA cx (by decide +kernel)) <|
  OkT.cons (ok_callV hex rfl rfl (by decide) ca_RL_122 hR hA cx (by decide +kernel)) <|
  OkT.cons (ok_Ic_eq (off := 65) (by decide) cx (by decide +kernel)) <|
  OkT.cons (ok_iconst (n := 0) cx (by decide +kernel) rfl) <|
  OkT.cons (ok_retZ hr (by decide +kernel)) <|
  OkT.cons (ok_aload_n (kn := 1) rfl cx (by decide +kernel)) <|
  OkT.cons (ok_aload_n (kn := 0) rfl cx (by decide +kernel)) <|
  OkT.cons (ok_iload_n (kn := 3) rfl cx (by decide +kernel)) <|
  OkT.cons (ok_iconst (n := 1) cx (by decide +kernel) rfl) <|
  OkT.cons (ok_iadd cx (by decide +kernel)) <|
  OkT.cons (ok_Scr hX hbl hbA cx (by decide +kernel)) <|
  OkT.cons (ok_callV hex rfl rfl (by decide) ca_RL_123 hR hA cx (by decide +kernel)) <|
  OkT.cons (ok_aload_n (kn := 2) rfl cx (by decide +kernel)) <|
  OkT.cons (ok_aload_n (kn := 0) rfl cx (by decide +kernel)) <|
  OkT.cons (ok_iload_n (kn := 3) rfl cx (by decide +kernel)) <|
  OkT.cons (ok_iconst (n := 1) cx (by decide +kernel) rfl) <|
  OkT.cons (ok_iadd cx (by decide +kernel)) <|
  OkT.cons (ok_Scr hX hbl hbA cx (by decide +kernel)) <|
  OkT.cons (ok_callV hex rfl rfl (by decide) ca_RL_126 hR hA cx (by decide +kernel)) <|
  OkT.cons (ok_Ic_eq (off := 42) (by decide) cx (by decide +kernel)) <|
  OkT.cons (ok_iconst (n := 0) cx (by decide +kernel) rfl) <|
  OkT.cons (ok_retZ hr (by decide +kernel)) <|
  OkT.cons (ok_aload_n (kn := 1) rfl cx (by decide +kernel)) <|
  OkT.cons (ok_aload_n (kn := 0) rfl cx (by decide +kernel)) <|
  OkT.cons (ok_iload_n (kn := 3) rfl cx (by decide +kernel)) <|
  OkT.cons (ok_iconst (n := 1) cx (by decide +kernel) rfl) <|
  OkT.cons (ok_iadd cx (by decide +kernel)) <|
  OkT.cons (ok_Scr hX hbl hbA cx (by decide +kernel)) <|
  OkT.cons (ok_callV hex rfl rfl (by decide) ca_RL_127 hR hA cx (by decide +kernel)) <|
  OkT.cons (ok_aload_n (kn := 2) rfl cx (by decide +kernel)) <|
  OkT.cons (ok_aload_n (kn := 0) rfl cx (by decide +kernel)) <|
  OkT.cons (ok_iload_n (kn := 3) rfl cx (by decide +kernel)) <|
  OkT.cons (ok_iconst (n := 1) cx (by decide +kernel) rfl) <|
  OkT.cons (ok_iadd cx (by decide +kernel)) <|
  OkT.cons (ok_Scr hX hbl hbA cx (by decide +kernel)) <|
  OkT.cons (ok_callV hex rfl rfl (by decide) ca_RL_130 hR hA cx (by decide +kernel)) <|
  OkT.cons (ok_Ic_eq (off := 19) (by decide) cx (by decide +kernel)) <|
  OkT.cons (ok_iconst (n := 0) cx (by decide +kernel) rfl) <|
  OkT.cons (ok_retZ hr (by decide +kernel)) <|
  OkT.cons (ok_aload_n (kn := 1) rfl cx (by decide +kernel)) <|
  OkT.cons (ok_callV hex rfl rfl (by decide) ca_RL_131 hR hA cx (by decide +kernel)) <|
  OkT.cons (ok_aload_n (kn := 2) rfl cx (by decide +kernel)) <|
  OkT.cons (ok_callV hex rfl rfl (by decide) ca_RL_135 hR hA cx (by decide +kernel)) <|
  OkT.cons (ok_lcmp cx (by decide +kernel)) <|
  OkT.cons (ok_If_eq (off := 5) (by decide) cx (by decide +kernel)) <|
  OkT.cons (ok_iconst (n := 0) cx (by decide +kernel) rfl) <|
  OkT.cons (ok_retZ hr (by decide +kernel)) <|
  OkT.cons (ok_iinc (n := 7) rfl cx (by decide +kernel)) <|
  OkT.cons (ok_goto (off := (-993)) (by decide) cx (by decide +kernel)) <|
  OkT.cons (ok_iconst (n := 1) cx (by decide +kernel) rfl) <|
  OkT.cons (ok_retZ hr (by decide +kernel)) <|
  OkT.nil

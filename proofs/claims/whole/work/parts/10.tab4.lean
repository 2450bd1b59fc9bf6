/-! the tables of the methods and that they are right (printed by a program) -/
def T_X9_isHat (ex : Ex) : Tb := [(0, oAld 0 1), (1, oGetA 7 13), (4, oIld 1 1), (5, oZald), (6, oIst 2 1), (7, pS (fPush (.int 0)) 1), (8, oIst 3 1), (9, oIld 3 1), (10, oAld 0 1), (11, oGetI 7 26), (14, oIc_ge 69), (17, oIld 2 1), (18, oIf_eq 69), (21, oIld 1 1), (22, oCallS ex 155 1), (25, oAld 0 1), (26, oGetA 7 10), (29, oIld 3 1), (30, oIald), (31, oIc_lt 61), (34, oAld 0 1), (35, oIld 1 1), (36, oAld 0 1), (37, oGetA 7 10), (40, oIld 3 1), (41, oIald), (42, oCallS ex 182 2), (45, oCallV ex 156 1 7), (48, oAld 0 1), (49, oGetA 7 11), (52, oIld 3 1), (53, oIald), (54, oIc_ne 61), (57, pS (fPush (.int 1)) 1), (58, oGoto 62), (61, oFg [2] (pS (fPush (.int 0)) 1)), (62, oFg [2] (oIst 2 1)), (63, oInc 3 1), (66, oGoto 9), (69, oFg [0, 1, 3] (oIld 2 1)), (70, oRetZ)]
set_option maxRecDepth 20000 in
theorem ta_X9_isHat : TabOk MIS T_X9_isHat mi_X9_isHat := ⟨by decide +kernel, fun l d ex hex p e R s m args below meth c cells slots ad D cI cZ A cx hR hA hr =>
  OkT.cons (ok_aload_n (kn := 0) rfl cx (by decide +kernel)) <|
  OkT.cons (ok_getA (k := 28) fg_RX9_47 (by decide) rfl cx (by decide +kernel)) <|
  OkT.cons (ok_iload_n (kn := 1) rfl cx (by decide +kernel)) <|
  OkT.cons (ok_Zald cx (by decide +kernel)) <|
  OkT.cons (ok_istore_n (kn := 2) rfl cx (by decide +kernel)) <|
  OkT.cons (ok_iconst (n := 0) cx (by decide +kernel) rfl) <|
  OkT.cons (ok_istore_n (kn := 3) rfl cx (by decide +kernel)) <|
  OkT.cons (ok_iload_n (kn := 3) rfl cx (by decide +kernel)) <|
  OkT.cons (ok_aload_n (kn := 0) rfl cx (by decide +kernel)) <|
  OkT.cons (ok_getI fg_RX9_160 (by decide) rfl cx (by decide +kernel)) <|
  OkT.cons (ok_Ic_ge (off := 55) (by decide) cx (by decide +kernel)) <|
  OkT.cons (ok_iload_n (kn := 2) rfl cx (by decide +kernel)) <|
  OkT.cons (ok_If_eq (off := 51) (by decide) cx (by decide +kernel)) <|
  OkT.cons (ok_iload_n (kn := 1) rfl cx (by decide +kernel)) <|
  OkT.cons (ok_callS hex rfl ca_RX9_173 hR hA cx (by decide +kernel)) <|
  OkT.cons (ok_aload_n (kn := 0) rfl cx (by decide +kernel)) <|
  OkT.cons (ok_getA (k := 24) fg_RX9_38 (by decide) rfl cx (by decide +kernel)) <|
  OkT.cons (ok_iload_n (kn := 3) rfl cx (by decide +kernel)) <|
  OkT.cons (ok_Iald cx (by decide +kernel)) <|
  OkT.cons (ok_Ic_lt (off := 30) (by decide) cx (by decide +kernel)) <|
  OkT.cons (ok_aload_n (kn := 0) rfl cx (by decide +kernel)) <|
  OkT.cons (ok_iload_n (kn := 1) rfl cx (by decide +kernel)) <|
  OkT.cons (ok_aload_n (kn := 0) rfl cx (by decide +kernel)) <|
  OkT.cons (ok_getA (k := 24) fg_RX9_38 (by decide) rfl cx (by decide +kernel)) <|
  OkT.cons (ok_iload_n (kn := 3) rfl cx (by decide +kernel)) <|
  OkT.cons (ok_Iald cx (by decide +kernel)) <|
  OkT.cons (ok_callS hex rfl ca_RX9_220 hR hA cx (by decide +kernel)) <|
  OkT.cons (ok_callV hex rfl rfl (by decide) ca_RX9_176 hR hA cx (by decide +kernel)) <|
  OkT.cons (ok_aload_n (kn := 0) rfl cx (by decide +kernel)) <|
  OkT.cons (ok_getA (k := 25) fg_RX9_41 (by decide) rfl cx (by decide +kernel)) <|
  OkT.cons (ok_iload_n (kn := 3) rfl cx (by decide +kernel)) <|
  OkT.cons (ok_Iald cx (by decide +kernel)) <|
  OkT.cons (ok_Ic_ne (off := 7) (by decide) cx (by decide +kernel)) <|
  OkT.cons (ok_iconst (n := 1) cx (by decide +kernel) rfl) <|
  OkT.cons (ok_goto (off := 4) (by decide) cx (by decide +kernel)) <|
  OkT.cons (ok_fg [2] (ok_iconst (n := 0) cx (by decide +kernel) rfl)) <|
  OkT.cons (ok_fg [2] (ok_istore_n (kn := 2) rfl cx (by decide +kernel))) <|
  OkT.cons (ok_iinc (n := 1) rfl cx (by decide +kernel)) <|
  OkT.cons (ok_goto (off := (-57)) (by decide) cx (by decide +kernel)) <|
  OkT.cons (ok_fg [0, 1, 3] (ok_iload_n (kn := 2) rfl cx (by decide +kernel))) <|
  OkT.cons (ok_retZ hr (by decide +kernel)) <|
  OkT.nil⟩
def T_X9_could (ex : Ex) : Tb := [(0, oAld 0 1), (1, pS (fPush (.int 0)) 1), (2, oPutI 7 0), (5, pS (fPush (.int 0)) 1), (6, oIst 1 1), (7, pS (fPush (.int 0)) 1), (8, oIst 2 1), (9, oIld 2 1), (10, pS (fPush (.int 216)) 3), (13, oIc_ge 38), (16, oIld 1 1), (17, oAld 0 1), (18, oIld 2 1), (19, oCallV ex 183 1 7), (22, oIf_eq 29), (25, pS (fPush (.int 1)) 1), (26, oGoto 30), (29, oFg [1] (pS (fPush (.int 0)) 1)), (30, oFg [1] (pS (fB (fun x y => x + y)) 1)), (31, oIst 1 1), (32, oInc 2 1), (35, oGoto 9), (38, oFg [0, 2] (oIld 1 1)), (39, oRetI)]
set_option maxRecDepth 20000 in
theorem ta_X9_could : TabOk MIS T_X9_could mi_X9_could := ⟨by decide +kernel, fun l d ex hex p e R s m args below meth c cells slots ad D cI cZ A cx hR hA hr =>
  OkT.cons (ok_aload_n (kn := 0) rfl cx (by decide +kernel)) <|
  OkT.cons (ok_iconst (n := 0) cx (by decide +kernel) rfl) <|
  OkT.cons (ok_putI fp_RX9_69 (by decide) rfl cx (by decide +kernel)) <|
  OkT.cons (ok_iconst (n := 0) cx (by decide +kernel) rfl) <|
  OkT.cons (ok_istore_n (kn := 1) rfl cx (by decide +kernel)) <|
  OkT.cons (ok_iconst (n := 0) cx (by decide +kernel) rfl) <|
  OkT.cons (ok_istore_n (kn := 2) rfl cx (by decide +kernel)) <|
  OkT.cons (ok_iload_n (kn := 2) rfl cx (by decide +kernel)) <|
  OkT.cons (ok_sipush (n := 216) cx (by decide +kernel) rfl) <|
  OkT.cons (ok_Ic_ge (off := 25) (by decide) cx (by decide +kernel)) <|
  OkT.cons (ok_iload_n (kn := 1) rfl cx (by decide +kernel)) <|
  OkT.cons (ok_aload_n (kn := 0) rfl cx (by decide +kernel)) <|
  OkT.cons (ok_iload_n (kn := 2) rfl cx (by decide +kernel)) <|
  OkT.cons (ok_callV hex rfl rfl (by decide) ca_RX9_223 hR hA cx (by decide +kernel)) <|
  OkT.cons (ok_If_eq (off := 7) (by decide) cx (by decide +kernel)) <|
  OkT.cons (ok_iconst (n := 1) cx (by decide +kernel) rfl) <|
  OkT.cons (ok_goto (off := 4) (by decide) cx (by decide +kernel)) <|
  OkT.cons (ok_fg [1] (ok_iconst (n := 0) cx (by decide +kernel) rfl)) <|
  OkT.cons (ok_fg [1] (ok_iadd cx (by decide +kernel))) <|
  OkT.cons (ok_istore_n (kn := 1) rfl cx (by decide +kernel)) <|
  OkT.cons (ok_iinc (n := 1) rfl cx (by decide +kernel)) <|
  OkT.cons (ok_goto (off := (-26)) (by decide) cx (by decide +kernel)) <|
  OkT.cons (ok_fg [0, 2] (ok_iload_n (kn := 1) rfl cx (by decide +kernel))) <|
  OkT.cons (ok_retI hr (by decide +kernel)) <|
  OkT.nil⟩
def T_X9_under (ex : Ex) : Tb := [(0, oAld 0 1), (1, pS (fPush (.int 0)) 1), (2, oPutI 7 0), (5, oIld 1 1), (6, pS (fPush (.int 0)) 1), (7, pS (fPush (.int 2)) 1), (8, oCallS ex 135 3), (11, oIf_ne 16), (14, pS (fPush (.int (-1))) 1), (15, oRetI), (16, oFg [2, 3, 4] (pS (fPush (.int (-9))) 2)), (18, oIst 2 1), (19, pS (fPush (.int 0)) 1), (20, oIst 3 1), (21, oFg [4] (oIld 3 1)), (22, pS (fPush (.int 216)) 3), (25, oIc_ge 84), (28, oAld 0 1), (29, oIld 3 1), (30, oCallV ex 183 1 7), (33, oIf_eq 78), (36, oIld 3 1), (37, oIld 1 1), (38, oCallS ex 158 2), (41, pS (fPush (.int (-9))) 2), (43, oIc_ne 51), (46, pS (fPush (.int (-5))) 2), (48, oGoto 56), (51, oFg [4] (oIld 3 1)), (52, oIld 1 1), (53, oCallS ex 158 2), (56, oFg [4] (oIst 4 2)), (58, oIld 2 1), (59, pS (fPush (.int (-9))) 2), (61, oIc_eq 70), (64, oIld 2 1), (65, oIld 4 2), (67, oIc_ne 75), (70, oFg [2] (oIld 4 2)), (72, oGoto 77), (75, oFg [2, 4] (pS (fPush (.int (-5))) 2)), (77, oFg [2, 4] (oIst 2 1)), (78, oFg [4] (oInc 3 1)), (81, oGoto 21), (84, oFg [0, 1, 3, 4] (oIld 2 1)), (85, oRetI)]
set_option maxRecDepth 20000 in
theorem ta_X9_under : TabOk MIS T_X9_under mi_X9_under := ⟨by decide +kernel, fun l d ex hex p e R s m args below meth c cells slots ad D cI cZ A cx hR hA hr =>
  OkT.cons (ok_aload_n (kn := 0) rfl cx (by decide +kernel)) <|
  OkT.cons (ok_iconst (n := 0) cx (by decide +kernel) rfl) <|
  OkT.cons (ok_putI fp_RX9_69 (by decide) rfl cx (by decide +kernel)) <|
  OkT.cons (ok_iload_n (kn := 1) rfl cx (by decide +kernel)) <|
  OkT.cons (ok_iconst (n := 0) cx (by decide +kernel) rfl) <|
  OkT.cons (ok_iconst (n := 2) cx (by decide +kernel) rfl) <|
  OkT.cons (ok_callS hex rfl ca_RX9_72 hR hA cx (by decide +kernel)) <|
  OkT.cons (ok_If_ne (off := 5) (by decide) cx (by decide +kernel)) <|
  OkT.cons (ok_iconst (n := (-1)) cx (by decide +kernel) rfl) <|
  OkT.cons (ok_retI hr (by decide +kernel)) <|
  OkT.cons (ok_fg [2, 3, 4] (ok_bipush (n := (-9)) cx (by decide +kernel) rfl)) <|
  OkT.cons (ok_istore_n (kn := 2) rfl cx (by decide +kernel)) <|
  OkT.cons (ok_iconst (n := 0) cx (by decide +kernel) rfl) <|
  OkT.cons (ok_istore_n (kn := 3) rfl cx (by decide +kernel)) <|
  OkT.cons (ok_fg [4] (ok_iload_n (kn := 3) rfl cx (by decide +kernel))) <|
  OkT.cons (ok_sipush (n := 216) cx (by decide +kernel) rfl) <|
  OkT.cons (ok_Ic_ge (off := 59) (by decide) cx (by decide +kernel)) <|
  OkT.cons (ok_aload_n (kn := 0) rfl cx (by decide +kernel)) <|
  OkT.cons (ok_iload_n (kn := 3) rfl cx (by decide +kernel)) <|
  OkT.cons (ok_callV hex rfl rfl (by decide) ca_RX9_223 hR hA cx (by decide +kernel)) <|
  OkT.cons (ok_If_eq (off := 45) (by decide) cx (by decide +kernel)) <|
  OkT.cons (ok_iload_n (kn := 3) rfl cx (by decide +kernel)) <|
  OkT.cons (ok_iload_n (kn := 1) rfl cx (by decide +kernel)) <|
  OkT.cons (ok_callS hex rfl ca_RX9_179 hR hA cx (by decide +kernel)) <|
  OkT.cons (ok_bipush (n := (-9)) cx (by decide +kernel) rfl) <|
  OkT.cons (ok_Ic_ne (off := 8) (by decide) cx (by decide +kernel)) <|
  OkT.cons (ok_bipush (n := (-5)) cx (by decide +kernel) rfl) <|
  OkT.cons (ok_goto (off := 8) (by decide) cx (by decide +kernel)) <|
  OkT.cons (ok_fg [4] (ok_iload_n (kn := 3) rfl cx (by decide +kernel))) <|
  OkT.cons (ok_iload_n (kn := 1) rfl cx (by decide +kernel)) <|
  OkT.cons (ok_callS hex rfl ca_RX9_179 hR hA cx (by decide +kernel)) <|
  OkT.cons (ok_fg [4] (ok_istore cx (by decide +kernel))) <|
  OkT.cons (ok_iload_n (kn := 2) rfl cx (by decide +kernel)) <|
  OkT.cons (ok_bipush (n := (-9)) cx (by decide +kernel) rfl) <|
  OkT.cons (ok_Ic_eq (off := 9) (by decide) cx (by decide +kernel)) <|
  OkT.cons (ok_iload_n (kn := 2) rfl cx (by decide +kernel)) <|
  OkT.cons (ok_iload cx (by decide +kernel)) <|
  OkT.cons (ok_Ic_ne (off := 8) (by decide) cx (by decide +kernel)) <|
  OkT.cons (ok_fg [2] (ok_iload cx (by decide +kernel))) <|
  OkT.cons (ok_goto (off := 5) (by decide) cx (by decide +kernel)) <|
  OkT.cons (ok_fg [2, 4] (ok_bipush (n := (-5)) cx (by decide +kernel) rfl)) <|
  OkT.cons (ok_fg [2, 4] (ok_istore_n (kn := 2) rfl cx (by decide +kernel))) <|
  OkT.cons (ok_fg [4] (ok_iinc (n := 1) rfl cx (by decide +kernel))) <|
  OkT.cons (ok_goto (off := (-60)) (by decide) cx (by decide +kernel)) <|
  OkT.cons (ok_fg [0, 1, 3, 4] (ok_iload_n (kn := 2) rfl cx (by decide +kernel))) <|
  OkT.cons (ok_retI hr (by decide +kernel)) <|
  OkT.nil⟩
def T_X9_atWorst (ex : Ex) : Tb := [(0, pS (fPush (.int 0)) 1), (1, oIst 2 1), (2, oFg [3, 4, 5] (oIld 2 1)), (3, pS (fPush (.int 1024)) 3), (6, oIc_ge 22), (9, oAld 0 1), (10, oGetA 7 15), (13, oIld 2 1), (14, pS (fPush (.int 0)) 1), (15, oIast), (16, oInc 2 1), (19, oGoto 2), (22, oFg [2, 3, 4, 5] (pS (fPush (.int 0)) 1)), (23, oIst 2 1), (24, pS (fPush (.int 0)) 1), (25, oIst 3 1), (26, pS (fPush (.int 0)) 1), (27, oIst 4 2), (29, oFg [5] (oIld 4 2)), (31, pS (fPush (.int 216)) 3), (34, oIc_ge 124), (37, oAld 0 1), (38, oIld 4 2), (40, oCallV ex 183 1 7), (43, oIf_eq 118), (46, oIld 4 2), (48, oCallS ex 155 1), (51, oIld 1 1), (52, oIc_ge 72), (55, oInc 2 1), (58, oIld 2 1), (59, oIld 3 1), (60, oIc_le 67), (63, oIld 2 1), (64, oGoto 68), (67, oFg [5] (oIld 3 1)), (68, oFg [3, 5] (oIst 3 1)), (69, oGoto 118), (72, oFg [5] (oAld 0 1)), (73, oIld 4 2), (75, oIld 1 1), (76, oCallS ex 182 2), (79, oCallV ex 156 1 7), (82, oIst 5 2), (84, oAld 0 1), (85, oGetA 7 15), (88, oIld 5 2), (90, pS fDup2 1), (91, oIald), (92, pS (fPush (.int 1)) 1), (93, pS (fB (fun x y => x + y)) 1), (94, oIast), (95, oAld 0 1), (96, oGetA 7 15), (99, oIld 5 2), (101, oIald), (102, oIld 3 1), (103, oIc_le 116), (106, oAld 0 1), (107, oGetA 7 15), (110, oIld 5 2), (112, oIald), (113, oGoto 117), (116, oFg [5] (oIld 3 1)), (117, oFg [3, 5] (oIst 3 1)), (118, oFg [5] (oInc 4 1)), (121, oGoto 29), (124, oFg [0, 1, 2, 4, 5] (oIld 3 1)), (125, oRetI)]
set_option maxRecDepth 20000 in
theorem ta_X9_atWorst : TabOk MIS T_X9_atWorst mi_X9_atWorst := ⟨by decide +kernel, fun l d ex hex p e R s m args below meth c cells slots ad D cI cZ A cx hR hA hr =>
  OkT.cons (ok_iconst (n := 0) cx (by decide +kernel) rfl) <|
  OkT.cons (ok_istore_n (kn := 2) rfl cx (by decide +kernel)) <|
  OkT.cons (ok_fg [3, 4, 5] (ok_iload_n (kn := 2) rfl cx (by decide +kernel))) <|
  OkT.cons (ok_sipush (n := 1024) cx (by decide +kernel) rfl) <|
  OkT.cons (ok_Ic_ge (off := 16) (by decide) cx (by decide +kernel)) <|
  OkT.cons (ok_aload_n (kn := 0) rfl cx (by decide +kernel)) <|
  OkT.cons (ok_getA (k := 31) fg_RX9_57 (by decide) rfl cx (by decide +kernel)) <|
  OkT.cons (ok_iload_n (kn := 2) rfl cx (by decide +kernel)) <|
  OkT.cons (ok_iconst (n := 0) cx (by decide +kernel) rfl) <|
  OkT.cons (ok_Iast cx (by decide +kernel)) <|
  OkT.cons (ok_iinc (n := 1) rfl cx (by decide +kernel)) <|
  OkT.cons (ok_goto (off := (-17)) (by decide) cx (by decide +kernel)) <|
  OkT.cons (ok_fg [2, 3, 4, 5] (ok_iconst (n := 0) cx (by decide +kernel) rfl)) <|
  OkT.cons (ok_istore_n (kn := 2) rfl cx (by decide +kernel)) <|
  OkT.cons (ok_iconst (n := 0) cx (by decide +kernel) rfl) <|
  OkT.cons (ok_istore_n (kn := 3) rfl cx (by decide +kernel)) <|
  OkT.cons (ok_iconst (n := 0) cx (by decide +kernel) rfl) <|
  OkT.cons (ok_istore cx (by decide +kernel)) <|
  OkT.cons (ok_fg [5] (ok_iload cx (by decide +kernel))) <|
  OkT.cons (ok_sipush (n := 216) cx (by decide +kernel) rfl) <|
  OkT.cons (ok_Ic_ge (off := 90) (by decide) cx (by decide +kernel)) <|
  OkT.cons (ok_aload_n (kn := 0) rfl cx (by decide +kernel)) <|
  OkT.cons (ok_iload cx (by decide +kernel)) <|
  OkT.cons (ok_callV hex rfl rfl (by decide) ca_RX9_223 hR hA cx (by decide +kernel)) <|
  OkT.cons (ok_If_eq (off := 75) (by decide) cx (by decide +kernel)) <|
  OkT.cons (ok_iload cx (by decide +kernel)) <|
  OkT.cons (ok_callS hex rfl ca_RX9_173 hR hA cx (by decide +kernel)) <|
  OkT.cons (ok_iload_n (kn := 1) rfl cx (by decide +kernel)) <|
  OkT.cons (ok_Ic_ge (off := 20) (by decide) cx (by decide +kernel)) <|
  OkT.cons (ok_iinc (n := 1) rfl cx (by decide +kernel)) <|
  OkT.cons (ok_iload_n (kn := 2) rfl cx (by decide +kernel)) <|
  OkT.cons (ok_iload_n (kn := 3) rfl cx (by decide +kernel)) <|
  OkT.cons (ok_Ic_le (off := 7) (by decide) cx (by decide +kernel)) <|
  OkT.cons (ok_iload_n (kn := 2) rfl cx (by decide +kernel)) <|
  OkT.cons (ok_goto (off := 4) (by decide) cx (by decide +kernel)) <|
  OkT.cons (ok_fg [5] (ok_iload_n (kn := 3) rfl cx (by decide +kernel))) <|
  OkT.cons (ok_fg [3, 5] (ok_istore_n (kn := 3) rfl cx (by decide +kernel))) <|
  OkT.cons (ok_goto (off := 49) (by decide) cx (by decide +kernel)) <|
  OkT.cons (ok_fg [5] (ok_aload_n (kn := 0) rfl cx (by decide +kernel))) <|
  OkT.cons (ok_iload cx (by decide +kernel)) <|
  OkT.cons (ok_iload_n (kn := 1) rfl cx (by decide +kernel)) <|
  OkT.cons (ok_callS hex rfl ca_RX9_220 hR hA cx (by decide +kernel)) <|
  OkT.cons (ok_callV hex rfl rfl (by decide) ca_RX9_176 hR hA cx (by decide +kernel)) <|
  OkT.cons (ok_istore cx (by decide +kernel)) <|
  OkT.cons (ok_aload_n (kn := 0) rfl cx (by decide +kernel)) <|
  OkT.cons (ok_getA (k := 31) fg_RX9_57 (by decide) rfl cx (by decide +kernel)) <|
  OkT.cons (ok_iload cx (by decide +kernel)) <|
  OkT.cons (ok_dup2 cx (by decide +kernel)) <|
  OkT.cons (ok_Iald cx (by decide +kernel)) <|
  OkT.cons (ok_iconst (n := 1) cx (by decide +kernel) rfl) <|
  OkT.cons (ok_iadd cx (by decide +kernel)) <|
  OkT.cons (ok_Iast cx (by decide +kernel)) <|
  OkT.cons (ok_aload_n (kn := 0) rfl cx (by decide +kernel)) <|
  OkT.cons (ok_getA (k := 31) fg_RX9_57 (by decide) rfl cx (by decide +kernel)) <|
  OkT.cons (ok_iload cx (by decide +kernel)) <|
  OkT.cons (ok_Iald cx (by decide +kernel)) <|
  OkT.cons (ok_iload_n (kn := 3) rfl cx (by decide +kernel)) <|
  OkT.cons (ok_Ic_le (off := 13) (by decide) cx (by decide +kernel)) <|
  OkT.cons (ok_aload_n (kn := 0) rfl cx (by decide +kernel)) <|
  OkT.cons (ok_getA (k := 31) fg_RX9_57 (by decide) rfl cx (by decide +kernel)) <|
  OkT.cons (ok_iload cx (by decide +kernel)) <|
  OkT.cons (ok_Iald cx (by decide +kernel)) <|
  OkT.cons (ok_goto (off := 4) (by decide) cx (by decide +kernel)) <|
  OkT.cons (ok_fg [5] (ok_iload_n (kn := 3) rfl cx (by decide +kernel))) <|
  OkT.cons (ok_fg [3, 5] (ok_istore_n (kn := 3) rfl cx (by decide +kernel))) <|
  OkT.cons (ok_fg [5] (ok_iinc (n := 1) rfl cx (by decide +kernel))) <|
  OkT.cons (ok_goto (off := (-92)) (by decide) cx (by decide +kernel)) <|
  OkT.cons (ok_fg [0, 1, 2, 4, 5] (ok_iload_n (kn := 3) rfl cx (by decide +kernel))) <|
  OkT.cons (ok_retI hr (by decide +kernel)) <|
  OkT.nil⟩
def T_X9_lifted (ex : Ex) : Tb := [(0, oAld 0 1), (1, pS (fPush (.int 0)) 1), (2, oPutI 7 0), (5, pS (fPush (.int (-9))) 2), (7, oIst 1 1), (8, pS (fPush (.int 0)) 1), (9, oIst 2 1), (10, oFg [3] (oIld 2 1)), (11, pS (fPush (.int 4)) 1), (12, oIc_ge 52), (15, oAld 0 1), (16, oIld 2 1), (17, oCallV ex 186 1 7), (20, oIst 3 1), (21, oIld 3 1), (22, oIf_le 44), (25, oIld 1 1), (26, pS (fPush (.int (-9))) 2), (28, oIc_eq 40), (31, oIld 3 1), (32, oAld 0 1), (33, oIld 1 1), (34, oCallV ex 186 1 7), (37, oIc_ge 44), (40, oFg [1, 3] (oIld 2 1)), (41, oGoto 45), (44, oFg [3] (oIld 1 1)), (45, oFg [1, 3] (oIst 1 1)), (46, oInc 2 1), (49, oGoto 10), (52, oFg [0, 2, 3] (oIld 1 1)), (53, oRetI)]
set_option maxRecDepth 20000 in
theorem ta_X9_lifted : TabOk MIS T_X9_lifted mi_X9_lifted := ⟨by decide +kernel, fun l d ex hex p e R s m args below meth c cells slots ad D cI cZ A cx hR hA hr =>
  OkT.cons (ok_aload_n (kn := 0) rfl cx (by decide +kernel)) <|
  OkT.cons (ok_iconst (n := 0) cx (by decide +kernel) rfl) <|
  OkT.cons (ok_putI fp_RX9_69 (by decide) rfl cx (by decide +kernel)) <|
  OkT.cons (ok_bipush (n := (-9)) cx (by decide +kernel) rfl) <|
  OkT.cons (ok_istore_n (kn := 1) rfl cx (by decide +kernel)) <|
  OkT.cons (ok_iconst (n := 0) cx (by decide +kernel) rfl) <|
  OkT.cons (ok_istore_n (kn := 2) rfl cx (by decide +kernel)) <|
  OkT.cons (ok_fg [3] (ok_iload_n (kn := 2) rfl cx (by decide +kernel))) <|
  OkT.cons (ok_iconst (n := 4) cx (by decide +kernel) rfl) <|
  OkT.cons (ok_Ic_ge (off := 40) (by decide) cx (by decide +kernel)) <|
  OkT.cons (ok_aload_n (kn := 0) rfl cx (by decide +kernel)) <|
  OkT.cons (ok_iload_n (kn := 2) rfl cx (by decide +kernel)) <|
  OkT.cons (ok_callV hex rfl rfl (by decide) ca_RX9_226 hR hA cx (by decide +kernel)) <|
  OkT.cons (ok_istore_n (kn := 3) rfl cx (by decide +kernel)) <|
  OkT.cons (ok_iload_n (kn := 3) rfl cx (by decide +kernel)) <|
  OkT.cons (ok_If_le (off := 22) (by decide) cx (by decide +kernel)) <|
  OkT.cons (ok_iload_n (kn := 1) rfl cx (by decide +kernel)) <|
  OkT.cons (ok_bipush (n := (-9)) cx (by decide +kernel) rfl) <|
  OkT.cons (ok_Ic_eq (off := 12) (by decide) cx (by decide +kernel)) <|
  OkT.cons (ok_iload_n (kn := 3) rfl cx (by decide +kernel)) <|
  OkT.cons (ok_aload_n (kn := 0) rfl cx (by decide +kernel)) <|
  OkT.cons (ok_iload_n (kn := 1) rfl cx (by decide +kernel)) <|
  OkT.cons (ok_callV hex rfl rfl (by decide) ca_RX9_226 hR hA cx (by decide +kernel)) <|
  OkT.cons (ok_Ic_ge (off := 7) (by decide) cx (by decide +kernel)) <|
  OkT.cons (ok_fg [1, 3] (ok_iload_n (kn := 2) rfl cx (by decide +kernel))) <|
  OkT.cons (ok_goto (off := 4) (by decide) cx (by decide +kernel)) <|
  OkT.cons (ok_fg [3] (ok_iload_n (kn := 1) rfl cx (by decide +kernel))) <|
  OkT.cons (ok_fg [1, 3] (ok_istore_n (kn := 1) rfl cx (by decide +kernel))) <|
  OkT.cons (ok_iinc (n := 1) rfl cx (by decide +kernel)) <|
  OkT.cons (ok_goto (off := (-39)) (by decide) cx (by decide +kernel)) <|
  OkT.cons (ok_fg [0, 2, 3] (ok_iload_n (kn := 1) rfl cx (by decide +kernel))) <|
  OkT.cons (ok_retI hr (by decide +kernel)) <|
  OkT.nil⟩
def T_X9_folds (ex : Ex) : Tb := [(0, oIld 1 1), (1, oIf_lt 64), (4, oAld 0 1), (5, oGetA 7 18), (8, oIld 1 1), (9, oIld 1 1), (10, pS (fPush (.int 2)) 1), (11, pS (fDv (fun x y => x - x / y * y)) 1), (12, oIf_ne 49), (15, oAld 0 1), (16, oGetA 7 18), (19, oIld 1 1), (20, oIald), (21, pS (fPush (.int (-9))) 2), (23, oIc_ne 40), (26, oIld 2 1), (27, pS (fPush (.int 1)) 1), (28, oIc_ne 40), (31, oAld 0 1), (32, oGetA 7 17), (35, oIld 1 1), (36, oIald), (37, oGoto 63), (40, oFg [2] (oAld 0 1)), (41, oGetA 7 18), (44, oIld 1 1), (45, oIald), (46, oGoto 63), (49, oIld 2 1), (50, oIf_ne 57), (53, pS (fPush (.int 0)) 1), (54, oGoto 63), (57, oFg [2] (oAld 0 1)), (58, oGetA 7 18), (61, oIld 1 1), (62, oIald), (63, oFg [0, 1, 2] (oIast)), (64, oFg [0, 1, 2] (oRetV))]
set_option maxRecDepth 20000 in
theorem ta_X9_folds : TabOk MIS T_X9_folds mi_X9_folds := ⟨by decide +kernel, fun l d ex hex p e R s m args below meth c cells slots ad D cI cZ A cx hR hA hr =>
  OkT.cons (ok_iload_n (kn := 1) rfl cx (by decide +kernel)) <|
  OkT.cons (ok_If_lt (off := 63) (by decide) cx (by decide +kernel)) <|
  OkT.cons (ok_aload_n (kn := 0) rfl cx (by decide +kernel)) <|
  OkT.cons (ok_getA (k := 34) fg_RX9_66 (by decide) rfl cx (by decide +kernel)) <|
  OkT.cons (ok_iload_n (kn := 1) rfl cx (by decide +kernel)) <|
  OkT.cons (ok_iload_n (kn := 1) rfl cx (by decide +kernel)) <|
  OkT.cons (ok_iconst (n := 2) cx (by decide +kernel) rfl) <|
  OkT.cons (ok_irem cx (by decide +kernel)) <|
  OkT.cons (ok_If_ne (off := 37) (by decide) cx (by decide +kernel)) <|
  OkT.cons (ok_aload_n (kn := 0) rfl cx (by decide +kernel)) <|
  OkT.cons (ok_getA (k := 34) fg_RX9_66 (by decide) rfl cx (by decide +kernel)) <|
  OkT.cons (ok_iload_n (kn := 1) rfl cx (by decide +kernel)) <|
  OkT.cons (ok_Iald cx (by decide +kernel)) <|
  OkT.cons (ok_bipush (n := (-9)) cx (by decide +kernel) rfl) <|
  OkT.cons (ok_Ic_ne (off := 17) (by decide) cx (by decide +kernel)) <|
  OkT.cons (ok_iload_n (kn := 2) rfl cx (by decide +kernel)) <|
  OkT.cons (ok_iconst (n := 1) cx (by decide +kernel) rfl) <|
  OkT.cons (ok_Ic_ne (off := 12) (by decide) cx (by decide +kernel)) <|
  OkT.cons (ok_aload_n (kn := 0) rfl cx (by decide +kernel)) <|
  OkT.cons (ok_getA (k := 33) fg_RX9_63 (by decide) rfl cx (by decide +kernel)) <|
  OkT.cons (ok_iload_n (kn := 1) rfl cx (by decide +kernel)) <|
  OkT.cons (ok_Iald cx (by decide +kernel)) <|
  OkT.cons (ok_goto (off := 26) (by decide) cx (by decide +kernel)) <|
  OkT.cons (ok_fg [2] (ok_aload_n (kn := 0) rfl cx (by decide +kernel))) <|
  OkT.cons (ok_getA (k := 34) fg_RX9_66 (by decide) rfl cx (by decide +kernel)) <|
  OkT.cons (ok_iload_n (kn := 1) rfl cx (by decide +kernel)) <|
  OkT.cons (ok_Iald cx (by decide +kernel)) <|
  OkT.cons (ok_goto (off := 17) (by decide) cx (by decide +kernel)) <|
  OkT.cons (ok_iload_n (kn := 2) rfl cx (by decide +kernel)) <|
  OkT.cons (ok_If_ne (off := 7) (by decide) cx (by decide +kernel)) <|
  OkT.cons (ok_iconst (n := 0) cx (by decide +kernel) rfl) <|
  OkT.cons (ok_goto (off := 9) (by decide) cx (by decide +kernel)) <|
  OkT.cons (ok_fg [2] (ok_aload_n (kn := 0) rfl cx (by decide +kernel))) <|
  OkT.cons (ok_getA (k := 34) fg_RX9_66 (by decide) rfl cx (by decide +kernel)) <|
  OkT.cons (ok_iload_n (kn := 1) rfl cx (by decide +kernel)) <|
  OkT.cons (ok_Iald cx (by decide +kernel)) <|
  OkT.cons (ok_fg [0, 1, 2] (ok_Iast cx (by decide +kernel))) <|
  OkT.cons (ok_fg [0, 1, 2] (ok_retV hr (by decide +kernel))) <|
  OkT.nil⟩
def T_X9_played (ex : Ex) : Tb := [(0, oAld 0 1), (1, oGetA 7 16), (4, pS (fPush (.int 0)) 1), (5, oAld 0 1), (6, oGetA 7 6), (9, oIld 1 1), (10, oIald), (11, oIast), (12, pS (fPush (.int 0)) 1), (13, oIst 6 2), (15, pS (fPush (.int 0)) 1), (16, oIst 7 2), (18, oIld 4 2), (20, oIf_le 38), (23, oAld 0 1), (24, oGetA 7 17), (27, pS (fPush (.int 0)) 1), (28, pS (fPush (.int (-1))) 1), (29, oIast), (30, oAld 0 1), (31, oGetA 7 18), (34, pS (fPush (.int 0)) 1), (35, pS (fPush (.int (-9))) 2), (37, oIast), (38, oFg [1, 8, 9, 10, 11] (oIld 6 2)), (40, oIf_lt 288), (43, oIld 6 2), (45, pS (fPush (.int 2)) 1), (46, pS (fDv (fun x y => x - x / y * y)) 1), (47, oIf_ne 54), (50, oIld 2 1), (51, oGoto 55), (54, oFg [1, 8, 9, 10, 11] (oIld 3 1)), (55, oFg [1, 8, 9, 10, 11] (oIst 8 2)), (57, oIld 6 2), (59, oIld 4 2), (61, oIc_ne 68), (64, pS (fPush (.int 1)) 1), (65, oGoto 69), (68, oFg [1, 9, 10, 11] (pS (fPush (.int 0)) 1)), (69, oFg [1, 9, 10, 11] (oIst 9 2)), (71, oIld 9 2), (73, oIf_ne 88), (76, oAld 0 1), (77, oGetA 7 17), (80, oIld 6 2), (82, oIald), (83, pS (fPush (.int 7)) 2), (85, oIc_ne 92), (88, oFg [1, 10, 11] (pS (fPush (.int 1)) 1)), (89, oGoto 93), (92, oFg [1, 10, 11] (pS (fPush (.int 0)) 1)), (93, oFg [1, 10, 11] (oIst 10 2)), (95, oIld 10 2), (97, oIf_eq 174), (100, oIld 9 2), (102, oIf_eq 124), (105, oAld 0 1), (106, oAld 0 1), (107, oGetA 7 16), (110, oIld 4 2), (112, oIald), (113, oCallV ex 156 1 7), (116, oIld 5 2), (118, pS (fB (fun x y => x >>> (y &&& 31))) 1), (119, pS (fPush (.int 1)) 1), (120, pS (fB (fun x y => x &&& y)) 1), (121, oGoto 158), (124, oFg [1, 7, 8, 9, 10, 11] (oIld 6 2)), (126, pS (fPush (.int 2)) 1), (127, pS (fDv (fun x y => x - x / y * y)) 1), (128, oIf_ne 151), (131, oAld 0 1), (132, oGetA 7 18), (135, oIld 6 2), (137, oIald), (138, pS (fPush (.int (-9))) 2), (140, oIc_ne 147), (143, pS (fPush (.int 0)) 1), (144, oGoto 158), (147, oFg [1, 7, 8, 9, 10, 11] (pS (fPush (.int 1)) 1)), (148, oGoto 158), (151, oFg [1, 7, 8, 9, 10, 11] (oAld 0 1)), (152, oGetA 7 18), (155, oIld 6 2), (157, oIald), (158, oFg [1, 7, 8, 9, 10, 11] (oIst 7 2)), (160, oInc 6 (-1)), (163, oAld 0 1), (164, oIld 6 2), (166, oIld 7 2), (168, oCallV ex 188 2 7), (171, oGoto 285), (174, oFg [1, 9, 10, 11] (oAld 0 1)), (175, oGetA 7 17), (178, oIld 6 2), (180, pS fDup2 1), (181, oIald), (182, pS (fPush (.int 1)) 1), (183, pS (fB (fun x y => x + y)) 1), (184, oIast), (185, oAld 0 1), (186, oGetA 7 17), (189, oIld 6 2), (191, oIald), (192, pS (fPush (.int 7)) 2), (194, oIc_ne 207), (197, oAld 0 1), (198, oGetA 7 16), (201, oIld 6 2), (203, oIald), (204, oGoto 229), (207, oFg [1, 9, 10, 11] (oAld 0 1)), (208, oAld 0 1), (209, oGetA 7 16), (212, oIld 6 2), (214, oIald), (215, oAld 0 1), (216, oGetA 7 17), (219, oIld 6 2), (221, oIald), (222, pS (fPush (.int 1)) 1), (223, oIld 8 2), (225, pS (fB (fun x y => x <<< (y &&& 31))) 1), (226, oCallV ex 171 3 7), (229, oFg [1, 8, 9, 10, 11] (oIst 11 2)), (231, oIld 11 2), (233, pS (fPush (.int (-9))) 2), (235, oIc_eq 285), (238, oInc 6 1), (241, oAld 0 1), (242, oGetA 7 16), (245, oIld 6 2), (247, oIld 11 2), (249, oIast), (250, oIld 6 2), (252, oIld 4 2), (254, oIc_ge 285), (257, oAld 0 1), (258, oGetA 7 17), (261, oIld 6 2), (263, pS (fPush (.int (-1))) 1), (264, oIast), (265, oAld 0 1), (266, oGetA 7 18), (269, oIld 6 2), (271, oIld 6 2), (273, pS (fPush (.int 2)) 1), (274, pS (fDv (fun x y => x - x / y * y)) 1), (275, oIf_ne 283), (278, pS (fPush (.int (-9))) 2), (280, oGoto 284), (283, oFg [1, 8, 9, 10, 11] (pS (fPush (.int 1)) 1)), (284, oFg [1, 8, 9, 10, 11] (oIast)), (285, oFg [1, 8, 9, 10, 11] (oGoto 38)), (288, oFg [1, 2, 3, 5, 6, 8, 9, 10, 11] (oIld 4 2)), (290, oIf_ne 308), (293, oIld 7 2), (295, pS (fPush (.int 1)) 1), (296, oIc_ne 303), (299, pS (fPush (.int 0)) 1), (300, oGoto 314), (303, oFg [0, 1, 2, 3, 4, 5, 6, 7, 8, 9, 10, 11] (pS (fPush (.int (-9))) 2)), (305, oGoto 314), (308, oFg [1, 2, 3, 4, 5, 6, 7, 8, 9, 10, 11] (oAld 0 1)), (309, oGetA 7 18), (312, pS (fPush (.int 0)) 1), (313, oIald), (314, oFg [0, 1, 2, 3, 4, 5, 6, 7, 8, 9, 10, 11] (oRetI))]
set_option maxRecDepth 20000 in
theorem ta_X9_played : TabOk MIS T_X9_played mi_X9_played := ⟨by decide +kernel, fun l d ex hex p e R s m args below meth c cells slots ad D cI cZ A cx hR hA hr =>
  OkT.cons (ok_aload_n (kn := 0) rfl cx (by decide +kernel)) <|
  OkT.cons (ok_getA (k := 32) fg_RX9_60 (by decide) rfl cx (by decide +kernel)) <|
  OkT.cons (ok_iconst (n := 0) cx (by decide +kernel) rfl) <|
  OkT.cons (ok_aload_n (kn := 0) rfl cx (by decide +kernel)) <|
  OkT.cons (ok_getA (k := 19) fg_RX9_25 (by decide) rfl cx (by decide +kernel)) <|
  OkT.cons (ok_iload_n (kn := 1) rfl cx (by decide +kernel)) <|
  OkT.cons (ok_Iald cx (by decide +kernel)) <|
  OkT.cons (ok_Iast cx (by decide +kernel)) <|
  OkT.cons (ok_iconst (n := 0) cx (by decide +kernel) rfl) <|
  OkT.cons (ok_istore cx (by decide +kernel)) <|
  OkT.cons (ok_iconst (n := 0) cx (by decide +kernel) rfl) <|
  OkT.cons (ok_istore cx (by decide +kernel)) <|
  OkT.cons (ok_iload cx (by decide +kernel)) <|
  OkT.cons (ok_If_le (off := 18) (by decide) cx (by decide +kernel)) <|
  OkT.cons (ok_aload_n (kn := 0) rfl cx (by decide +kernel)) <|
  OkT.cons (ok_getA (k := 33) fg_RX9_63 (by decide) rfl cx (by decide +kernel)) <|
  OkT.cons (ok_iconst (n := 0) cx (by decide +kernel) rfl) <|
  OkT.cons (ok_iconst (n := (-1)) cx (by decide +kernel) rfl) <|
  OkT.cons (ok_Iast cx (by decide +kernel)) <|
  OkT.cons (ok_aload_n (kn := 0) rfl cx (by decide +kernel)) <|
  OkT.cons (ok_getA (k := 34) fg_RX9_66 (by decide) rfl cx (by decide +kernel)) <|
  OkT.cons (ok_iconst (n := 0) cx (by decide +kernel) rfl) <|
  OkT.cons (ok_bipush (n := (-9)) cx (by decide +kernel) rfl) <|
  OkT.cons (ok_Iast cx (by decide +kernel)) <|
  OkT.cons (ok_fg [1, 8, 9, 10, 11] (ok_iload cx (by decide +kernel))) <|
  OkT.cons (ok_If_lt (off := 248) (by decide) cx (by decide +kernel)) <|
  OkT.cons (ok_iload cx (by decide +kernel)) <|
  OkT.cons (ok_iconst (n := 2) cx (by decide +kernel) rfl) <|
  OkT.cons (ok_irem cx (by decide +kernel)) <|
  OkT.cons (ok_If_ne (off := 7) (by decide) cx (by decide +kernel)) <|
  OkT.cons (ok_iload_n (kn := 2) rfl cx (by decide +kernel)) <|
  OkT.cons (ok_goto (off := 4) (by decide) cx (by decide +kernel)) <|
  OkT.cons (ok_fg [1, 8, 9, 10, 11] (ok_iload_n (kn := 3) rfl cx (by decide +kernel))) <|
  OkT.cons (ok_fg [1, 8, 9, 10, 11] (ok_istore cx (by decide +kernel))) <|
  OkT.cons (ok_iload cx (by decide +kernel)) <|
  OkT.cons (ok_iload cx (by decide +kernel)) <|
  OkT.cons (ok_Ic_ne (off := 7) (by decide) cx (by decide +kernel)) <|
  OkT.cons (ok_iconst (n := 1) cx (by decide +kernel) rfl) <|
  OkT.cons (ok_goto (off := 4) (by decide) cx (by decide +kernel)) <|
  OkT.cons (ok_fg [1, 9, 10, 11] (ok_iconst (n := 0) cx (by decide +kernel) rfl)) <|
  OkT.cons (ok_fg [1, 9, 10, 11] (ok_istore cx (by decide +kernel))) <|
  OkT.cons (ok_iload cx (by decide +kernel)) <|
  OkT.cons (ok_If_ne (off := 15) (by decide) cx (by decide +kernel)) <|
  OkT.cons (ok_aload_n (kn := 0) rfl cx (by decide +kernel)) <|
  OkT.cons (ok_getA (k := 33) fg_RX9_63 (by decide) rfl cx (by decide +kernel)) <|
  OkT.cons (ok_iload cx (by decide +kernel)) <|
  OkT.cons (ok_Iald cx (by decide +kernel)) <|
  OkT.cons (ok_bipush (n := 7) cx (by decide +kernel) rfl) <|
  OkT.cons (ok_Ic_ne (off := 7) (by decide) cx (by decide +kernel)) <|
  OkT.cons (ok_fg [1, 10, 11] (ok_iconst (n := 1) cx (by decide +kernel) rfl)) <|
  OkT.cons (ok_goto (off := 4) (by decide) cx (by decide +kernel)) <|
  OkT.cons (ok_fg [1, 10, 11] (ok_iconst (n := 0) cx (by decide +kernel) rfl)) <|
  OkT.cons (ok_fg [1, 10, 11] (ok_istore cx (by decide +kernel))) <|
  OkT.cons (ok_iload cx (by decide +kernel)) <|
  OkT.cons (ok_If_eq (off := 77) (by decide) cx (by decide +kernel)) <|
  OkT.cons (ok_iload cx (by decide +kernel)) <|
  OkT.cons (ok_If_eq (off := 22) (by decide) cx (by decide +kernel)) <|
  OkT.cons (ok_aload_n (kn := 0) rfl cx (by decide +kernel)) <|
  OkT.cons (ok_aload_n (kn := 0) rfl cx (by decide +kernel)) <|
  OkT.cons (ok_getA (k := 32) fg_RX9_60 (by decide) rfl cx (by decide +kernel)) <|
  OkT.cons (ok_iload cx (by decide +kernel)) <|
  OkT.cons (ok_Iald cx (by decide +kernel)) <|
  OkT.cons (ok_callV hex rfl rfl (by decide) ca_RX9_176 hR hA cx (by decide +kernel)) <|
  OkT.cons (ok_iload cx (by decide +kernel)) <|
  OkT.cons (ok_ishr cx (by decide +kernel)) <|
  OkT.cons (ok_iconst (n := 1) cx (by decide +kernel) rfl) <|
  OkT.cons (ok_iand cx (by decide +kernel)) <|
  OkT.cons (ok_goto (off := 37) (by decide) cx (by decide +kernel)) <|
  OkT.cons (ok_fg [1, 7, 8, 9, 10, 11] (ok_iload cx (by decide +kernel))) <|
  OkT.cons (ok_iconst (n := 2) cx (by decide +kernel) rfl) <|
  OkT.cons (ok_irem cx (by decide +kernel)) <|
  OkT.cons (ok_If_ne (off := 23) (by decide) cx (by decide +kernel)) <|
  OkT.cons (ok_aload_n (kn := 0) rfl cx (by decide +kernel)) <|
  OkT.cons (ok_getA (k := 34) fg_RX9_66 (by decide) rfl cx (by decide +kernel)) <|
  OkT.cons (ok_iload cx (by decide +kernel)) <|
  OkT.cons (ok_Iald cx (by decide +kernel)) <|
  OkT.cons (ok_bipush (n := (-9)) cx (by decide +kernel) rfl) <|
  OkT.cons (ok_Ic_ne (off := 7) (by decide) cx (by decide +kernel)) <|
  OkT.cons (ok_iconst (n := 0) cx (by decide +kernel) rfl) <|
  OkT.cons (ok_goto (off := 14) (by decide) cx (by decide +kernel)) <|
  OkT.cons (ok_fg [1, 7, 8, 9, 10, 11] (ok_iconst (n := 1) cx (by decide +kernel) rfl)) <|
  OkT.cons (ok_goto (off := 10) (by decide) cx (by decide +kernel)) <|
  OkT.cons (ok_fg [1, 7, 8, 9, 10, 11] (ok_aload_n (kn := 0) rfl cx (by decide +kernel))) <|
  OkT.cons (ok_getA (k := 34) fg_RX9_66 (by decide) rfl cx (by decide +kernel)) <|
  OkT.cons (ok_iload cx (by decide +kernel)) <|
  OkT.cons (ok_Iald cx (by decide +kernel)) <|
  OkT.cons (ok_fg [1, 7, 8, 9, 10, 11] (ok_istore cx (by decide +kernel))) <|
  OkT.cons (ok_iinc (n := (-1)) rfl cx (by decide +kernel)) <|
  OkT.cons (ok_aload_n (kn := 0) rfl cx (by decide +kernel)) <|
  OkT.cons (ok_iload cx (by decide +kernel)) <|
  OkT.cons (ok_iload cx (by decide +kernel)) <|
  OkT.cons (ok_callV hex rfl rfl (by decide) ca_RX9_229 hR hA cx (by decide +kernel)) <|
  OkT.cons (ok_goto (off := 114) (by decide) cx (by decide +kernel)) <|
  OkT.cons (ok_fg [1, 9, 10, 11] (ok_aload_n (kn := 0) rfl cx (by decide +kernel))) <|
  OkT.cons (ok_getA (k := 33) fg_RX9_63 (by decide) rfl cx (by decide +kernel)) <|
  OkT.cons (ok_iload cx (by decide +kernel)) <|
  OkT.cons (ok_dup2 cx (by decide +kernel)) <|
  OkT.cons (ok_Iald cx (by decide +kernel)) <|
  OkT.cons (ok_iconst (n := 1) cx (by decide +kernel) rfl) <|
  OkT.cons (ok_iadd cx (by decide +kernel)) <|
  OkT.cons (ok_Iast cx (by decide +kernel)) <|
  OkT.cons (ok_aload_n (kn := 0) rfl cx (by decide +kernel)) <|
  OkT.cons (ok_getA (k := 33) fg_RX9_63 (by decide) rfl cx (by decide +kernel)) <|
  OkT.cons (ok_iload cx (by decide +kernel)) <|
  OkT.cons (ok_Iald cx (by decide +kernel)) <|
  OkT.cons (ok_bipush (n := 7) cx (by decide +kernel) rfl) <|
  OkT.cons (ok_Ic_ne (off := 13) (by decide) cx (by decide +kernel)) <|
  OkT.cons (ok_aload_n (kn := 0) rfl cx (by decide +kernel)) <|
  OkT.cons (ok_getA (k := 32) fg_RX9_60 (by decide) rfl cx (by decide +kernel)) <|
  OkT.cons (ok_iload cx (by decide +kernel)) <|
  OkT.cons (ok_Iald cx (by decide +kernel)) <|
  OkT.cons (ok_goto (off := 25) (by decide) cx (by decide +kernel)) <|
  OkT.cons (ok_fg [1, 9, 10, 11] (ok_aload_n (kn := 0) rfl cx (by decide +kernel))) <|
  OkT.cons (ok_aload_n (kn := 0) rfl cx (by decide +kernel)) <|
  OkT.cons (ok_getA (k := 32) fg_RX9_60 (by decide) rfl cx (by decide +kernel)) <|
  OkT.cons (ok_iload cx (by decide +kernel)) <|
  OkT.cons (ok_Iald cx (by decide +kernel)) <|
  OkT.cons (ok_aload_n (kn := 0) rfl cx (by decide +kernel)) <|
  OkT.cons (ok_getA (k := 33) fg_RX9_63 (by decide) rfl cx (by decide +kernel)) <|
  OkT.cons (ok_iload cx (by decide +kernel)) <|
  OkT.cons (ok_Iald cx (by decide +kernel)) <|
  OkT.cons (ok_iconst (n := 1) cx (by decide +kernel) rfl) <|
  OkT.cons (ok_iload cx (by decide +kernel)) <|
  OkT.cons (ok_ishl cx (by decide +kernel)) <|
  OkT.cons (ok_callV hex rfl rfl (by decide) ca_RX9_199 hR hA cx (by decide +kernel)) <|
  OkT.cons (ok_fg [1, 8, 9, 10, 11] (ok_istore cx (by decide +kernel))) <|
  OkT.cons (ok_iload cx (by decide +kernel)) <|
  OkT.cons (ok_bipush (n := (-9)) cx (by decide +kernel) rfl) <|
  OkT.cons (ok_Ic_eq (off := 50) (by decide) cx (by decide +kernel)) <|
  OkT.cons (ok_iinc (n := 1) rfl cx (by decide +kernel)) <|
  OkT.cons (ok_aload_n (kn := 0) rfl cx (by decide +kernel)) <|
  OkT.cons (ok_getA (k := 32) fg_RX9_60 (by decide) rfl cx (by decide +kernel)) <|
  OkT.cons (ok_iload cx (by decide +kernel)) <|
  OkT.cons (ok_iload cx (by decide +kernel)) <|
  OkT.cons (ok_Iast cx (by decide +kernel)) <|
  OkT.cons (ok_iload cx (by decide +kernel)) <|
  OkT.cons (ok_iload cx (by decide +kernel)) <|
  OkT.cons (ok_Ic_ge (off := 31) (by decide) cx (by decide +kernel)) <|
  OkT.cons (ok_aload_n (kn := 0) rfl cx (by decide +kernel)) <|
  OkT.cons (ok_getA (k := 33) fg_RX9_63 (by decide) rfl cx (by decide +kernel)) <|
  OkT.cons (ok_iload cx (by decide +kernel)) <|
  OkT.cons (ok_iconst (n := (-1)) cx (by decide +kernel) rfl) <|
  OkT.cons (ok_Iast cx (by decide +kernel)) <|
  OkT.cons (ok_aload_n (kn := 0) rfl cx (by decide +kernel)) <|
  OkT.cons (ok_getA (k := 34) fg_RX9_66 (by decide) rfl cx (by decide +kernel)) <|
  OkT.cons (ok_iload cx (by decide +kernel)) <|
  OkT.cons (ok_iload cx (by decide +kernel)) <|
  OkT.cons (ok_iconst (n := 2) cx (by decide +kernel) rfl) <|
  OkT.cons (ok_irem cx (by decide +kernel)) <|
  OkT.cons (ok_If_ne (off := 8) (by decide) cx (by decide +kernel)) <|
  OkT.cons (ok_bipush (n := (-9)) cx (by decide +kernel) rfl) <|
  OkT.cons (ok_goto (off := 4) (by decide) cx (by decide +kernel)) <|
  OkT.cons (ok_fg [1, 8, 9, 10, 11] (ok_iconst (n := 1) cx (by decide +kernel) rfl)) <|
  OkT.cons (ok_fg [1, 8, 9, 10, 11] (ok_Iast cx (by decide +kernel))) <|
  OkT.cons (ok_fg [1, 8, 9, 10, 11] (ok_goto (off := (-247)) (by decide) cx (by decide +kernel))) <|
  OkT.cons (ok_fg [1, 2, 3, 5, 6, 8, 9, 10, 11] (ok_iload cx (by decide +kernel))) <|
  OkT.cons (ok_If_ne (off := 18) (by decide) cx (by decide +kernel)) <|
  OkT.cons (ok_iload cx (by decide +kernel)) <|
  OkT.cons (ok_iconst (n := 1) cx (by decide +kernel) rfl) <|
  OkT.cons (ok_Ic_ne (off := 7) (by decide) cx (by decide +kernel)) <|
  OkT.cons (ok_iconst (n := 0) cx (by decide +kernel) rfl) <|
  OkT.cons (ok_goto (off := 14) (by decide) cx (by decide +kernel)) <|
  OkT.cons (ok_fg [0, 1, 2, 3, 4, 5, 6, 7, 8, 9, 10, 11] (ok_bipush (n := (-9)) cx (by decide +kernel) rfl)) <|
  OkT.cons (ok_goto (off := 9) (by decide) cx (by decide +kernel)) <|
  OkT.cons (ok_fg [1, 2, 3, 4, 5, 6, 7, 8, 9, 10, 11] (ok_aload_n (kn := 0) rfl cx (by decide +kernel))) <|
  OkT.cons (ok_getA (k := 34) fg_RX9_66 (by decide) rfl cx (by decide +kernel)) <|
  OkT.cons (ok_iconst (n := 0) cx (by decide +kernel) rfl) <|
  OkT.cons (ok_Iald cx (by decide +kernel)) <|
  OkT.cons (ok_fg [0, 1, 2, 3, 4, 5, 6, 7, 8, 9, 10, 11] (ok_retI hr (by decide +kernel))) <|
  OkT.nil⟩
def T_X9_broom (ex : Ex) : Tb := [(0, oAld 0 1), (1, pS (fPush (.int 0)) 1), (2, oPutI 7 0), (5, oAld 0 1), (6, oIld 1 1), (7, oCallV ex 152 1 7), (10, oIf_eq 65), (13, oAld 0 1), (14, oIld 2 1), (15, oCallV ex 153 1 7), (18, oIf_eq 65), (21, oAld 0 1), (22, oIld 3 1), (23, oCallV ex 153 1 7), (26, oIf_eq 65), (29, oIld 2 1), (30, oIld 3 1), (31, oIc_eq 65), (34, oIld 4 2), (36, pS (fPush (.int 0)) 1), (37, pS (fPush (.int 4)) 1), (38, oCallS ex 135 3), (41, oIf_eq 65), (44, oIld 5 2), (46, pS (fPush (.int 0)) 1), (47, pS (fPush (.int 9)) 2), (49, oCallS ex 135 3), (52, oIf_eq 65), (55, oIld 6 2), (57, pS (fPush (.int 0)) 1), (58, pS (fPush (.int 1)) 1), (59, oCallS ex 135 3), (62, oIf_ne 67), (65, oFg [0, 1, 2, 3, 4, 5, 6, 7] (pS (fPush (.int (-1))) 1)), (66, oRetI), (67, oFg [7] (oAld 0 1)), (68, oIld 1 1), (69, oIld 2 1), (70, oIld 3 1), (71, oIld 4 2), (73, oIld 5 2), (75, oCallV ex 189 5 7), (78, oIst 7 2), (80, oIld 6 2), (82, oIf_ne 100), (85, oIld 7 2), (87, pS (fPush (.int (-9))) 2), (89, oIc_ne 96), (92, pS (fPush (.int 0)) 1), (93, oGoto 112), (96, oFg [0, 1, 2, 3, 4, 5, 6, 7] (pS (fPush (.int 1)) 1)), (97, oGoto 112), (100, oFg [0, 1, 2, 3, 5, 6] (oIld 4 2)), (102, oIf_ne 110), (105, pS (fPush (.int (-9))) 2), (107, oGoto 112), (110, oFg [0, 1, 2, 3, 4, 5, 6] (oIld 7 2)), (112, oFg [0, 1, 2, 3, 4, 5, 6, 7] (oRetI))]
set_option maxRecDepth 20000 in
theorem ta_X9_broom : TabOk MIS T_X9_broom mi_X9_broom := ⟨by decide +kernel, fun l d ex hex p e R s m args below meth c cells slots ad D cI cZ A cx hR hA hr =>
  OkT.cons (ok_aload_n (kn := 0) rfl cx (by decide +kernel)) <|
  OkT.cons (ok_iconst (n := 0) cx (by decide +kernel) rfl) <|
  OkT.cons (ok_putI fp_RX9_69 (by decide) rfl cx (by decide +kernel)) <|
  OkT.cons (ok_aload_n (kn := 0) rfl cx (by decide +kernel)) <|
  OkT.cons (ok_iload_n (kn := 1) rfl cx (by decide +kernel)) <|
  OkT.cons (ok_callV hex rfl rfl (by decide) ca_RX9_170 hR hA cx (by decide +kernel)) <|
  OkT.cons (ok_If_eq (off := 55) (by decide) cx (by decide +kernel)) <|
  OkT.cons (ok_aload_n (kn := 0) rfl cx (by decide +kernel)) <|
  OkT.cons (ok_iload_n (kn := 2) rfl cx (by decide +kernel)) <|
  OkT.cons (ok_callV hex rfl rfl (by decide) ca_RX9_182 hR hA cx (by decide +kernel)) <|
  OkT.cons (ok_If_eq (off := 47) (by decide) cx (by decide +kernel)) <|
  OkT.cons (ok_aload_n (kn := 0) rfl cx (by decide +kernel)) <|
  OkT.cons (ok_iload_n (kn := 3) rfl cx (by decide +kernel)) <|
  OkT.cons (ok_callV hex rfl rfl (by decide) ca_RX9_182 hR hA cx (by decide +kernel)) <|
  OkT.cons (ok_If_eq (off := 39) (by decide) cx (by decide +kernel)) <|
  OkT.cons (ok_iload_n (kn := 2) rfl cx (by decide +kernel)) <|
  OkT.cons (ok_iload_n (kn := 3) rfl cx (by decide +kernel)) <|
  OkT.cons (ok_Ic_eq (off := 34) (by decide) cx (by decide +kernel)) <|
  OkT.cons (ok_iload cx (by decide +kernel)) <|
  OkT.cons (ok_iconst (n := 0) cx (by decide +kernel) rfl) <|
  OkT.cons (ok_iconst (n := 4) cx (by decide +kernel) rfl) <|
  OkT.cons (ok_callS hex rfl ca_RX9_72 hR hA cx (by decide +kernel)) <|
  OkT.cons (ok_If_eq (off := 24) (by decide) cx (by decide +kernel)) <|
  OkT.cons (ok_iload cx (by decide +kernel)) <|
  OkT.cons (ok_iconst (n := 0) cx (by decide +kernel) rfl) <|
  OkT.cons (ok_bipush (n := 9) cx (by decide +kernel) rfl) <|
  OkT.cons (ok_callS hex rfl ca_RX9_72 hR hA cx (by decide +kernel)) <|
  OkT.cons (ok_If_eq (off := 13) (by decide) cx (by decide +kernel)) <|
  OkT.cons (ok_iload cx (by decide +kernel)) <|
  OkT.cons (ok_iconst (n := 0) cx (by decide +kernel) rfl) <|
  OkT.cons (ok_iconst (n := 1) cx (by decide +kernel) rfl) <|
  OkT.cons (ok_callS hex rfl ca_RX9_72 hR hA cx (by decide +kernel)) <|
  OkT.cons (ok_If_ne (off := 5) (by decide) cx (by decide +kernel)) <|
  OkT.cons (ok_fg [0, 1, 2, 3, 4, 5, 6, 7] (ok_iconst (n := (-1)) cx (by decide +kernel) rfl)) <|
  OkT.cons (ok_retI hr (by decide +kernel)) <|
  OkT.cons (ok_fg [7] (ok_aload_n (kn := 0) rfl cx (by decide +kernel))) <|
  OkT.cons (ok_iload_n (kn := 1) rfl cx (by decide +kernel)) <|
  OkT.cons (ok_iload_n (kn := 2) rfl cx (by decide +kernel)) <|
  OkT.cons (ok_iload_n (kn := 3) rfl cx (by decide +kernel)) <|
  OkT.cons (ok_iload cx (by decide +kernel)) <|
  OkT.cons (ok_iload cx (by decide +kernel)) <|
  OkT.cons (ok_callV hex rfl rfl (by decide) ca_RX9_232 hR hA cx (by decide +kernel)) <|
  OkT.cons (ok_istore cx (by decide +kernel)) <|
  OkT.cons (ok_iload cx (by decide +kernel)) <|
  OkT.cons (ok_If_ne (off := 18) (by decide) cx (by decide +kernel)) <|
  OkT.cons (ok_iload cx (by decide +kernel)) <|
  OkT.cons (ok_bipush (n := (-9)) cx (by decide +kernel) rfl) <|
  OkT.cons (ok_Ic_ne (off := 7) (by decide) cx (by decide +kernel)) <|
  OkT.cons (ok_iconst (n := 0) cx (by decide +kernel) rfl) <|
  OkT.cons (ok_goto (off := 19) (by decide) cx (by decide +kernel)) <|
  OkT.cons (ok_fg [0, 1, 2, 3, 4, 5, 6, 7] (ok_iconst (n := 1) cx (by decide +kernel) rfl)) <|
  OkT.cons (ok_goto (off := 15) (by decide) cx (by decide +kernel)) <|
  OkT.cons (ok_fg [0, 1, 2, 3, 5, 6] (ok_iload cx (by decide +kernel))) <|
  OkT.cons (ok_If_ne (off := 8) (by decide) cx (by decide +kernel)) <|
  OkT.cons (ok_bipush (n := (-9)) cx (by decide +kernel) rfl) <|
  OkT.cons (ok_goto (off := 5) (by decide) cx (by decide +kernel)) <|
  OkT.cons (ok_fg [0, 1, 2, 3, 4, 5, 6] (ok_iload cx (by decide +kernel))) <|
  OkT.cons (ok_fg [0, 1, 2, 3, 4, 5, 6, 7] (ok_retI hr (by decide +kernel))) <|
  OkT.nil⟩
def T_X9_gcd (ex : Ex) : Tb := [(0, oLld 0 1), (1, oLst 4 2), (3, oLld 2 1), (4, oLst 6 2), (6, oFg [0, 2, 8] (oLld 6 2)), (8, pS (fPush (.long 0)) 1), (9, pS fCmp 1), (10, oIf_eq 31), (13, oLld 4 2), (15, oLld 6 2), (17, pS (fDL (fun x y => x - x / y * y)) 1), (18, oLst 8 2), (20, oLld 6 2), (22, oLst 4 2), (24, oLld 8 2), (26, oLst 6 2), (28, oGoto 6), (31, oFg [0, 2, 6, 8] (oLld 4 2)), (33, oRetL)]
set_option maxRecDepth 20000 in
theorem ta_X9_gcd : TabOk MIS T_X9_gcd mi_X9_gcd := ⟨by decide +kernel, fun l d ex hex p e R s m args below meth c cells slots ad D cI cZ A cx hR hA hr =>
  OkT.cons (ok_lload_n (kn := 0) rfl cx (by decide +kernel)) <|
  OkT.cons (ok_lstore cx (by decide +kernel)) <|
  OkT.cons (ok_lload_n (kn := 2) rfl cx (by decide +kernel)) <|
  OkT.cons (ok_lstore cx (by decide +kernel)) <|
  OkT.cons (ok_fg [0, 2, 8] (ok_lload cx (by decide +kernel))) <|
  OkT.cons (ok_lconst (n := 0) cx (by decide +kernel) rfl) <|
  OkT.cons (ok_lcmp cx (by decide +kernel)) <|
  OkT.cons (ok_If_eq (off := 21) (by decide) cx (by decide +kernel)) <|
  OkT.cons (ok_lload cx (by decide +kernel)) <|
  OkT.cons (ok_lload cx (by decide +kernel)) <|
  OkT.cons (ok_lrem cx (by decide +kernel)) <|
  OkT.cons (ok_lstore cx (by decide +kernel)) <|
  OkT.cons (ok_lload cx (by decide +kernel)) <|
  OkT.cons (ok_lstore cx (by decide +kernel)) <|
  OkT.cons (ok_lload cx (by decide +kernel)) <|
  OkT.cons (ok_lstore cx (by decide +kernel)) <|
  OkT.cons (ok_goto (off := (-22)) (by decide) cx (by decide +kernel)) <|
  OkT.cons (ok_fg [0, 2, 6, 8] (ok_lload cx (by decide +kernel))) <|
  OkT.cons (ok_retL hr (by decide +kernel)) <|
  OkT.nil⟩
def T_X9_odds (ex : Ex) : Tb := [(0, oAld 0 1), (1, pS (fPush (.int 0)) 1), (2, oPutI 7 0), (5, oIld 1 1), (6, pS (fPush (.int 0)) 1), (7, pS (fPush (.int 9)) 2), (9, oCallS ex 135 3), (12, oIf_eq 34), (15, oIld 2 1), (16, pS (fPush (.int 0)) 1), (17, pS (fPush (.int 10)) 2), (19, oCallS ex 135 3), (22, oIf_eq 34), (25, oIld 3 1), (26, pS (fPush (.int 0)) 1), (27, pS (fPush (.int 1)) 1), (28, oCallS ex 135 3), (31, oIf_ne 38), (34, oFg [0, 1, 2, 3, 4, 6, 8] (pS (fPush (.long (-1))) 3)), (37, oRetL), (38, oFg [0, 4, 6, 8] (pS (fPush (.long 1)) 1)), (39, oLst 4 2), (41, pS (fPush (.long 1)) 1), (42, oLst 6 2), (44, pS (fPush (.int 0)) 1), (45, oIst 8 2), (47, oFg [0] (oIld 8 2)), (49, oIld 1 1), (50, oIc_ge 77), (53, oLld 4 2), (55, pS (fPush (.int 10)) 2), (57, oIld 2 1), (58, pS (fB (fun x y => x - y)) 1), (59, pS fI2l 1), (60, pS (fBL (fun x y => x * y)) 1), (61, oLst 4 2), (63, oLld 6 2), (65, pS (fPush (.long 10)) 3), (68, pS (fBL (fun x y => x * y)) 1), (69, oLst 6 2), (71, oInc 8 1), (74, oGoto 47), (77, oFg [0, 1, 2, 8] (oLld 4 2)), (79, oLld 6 2), (81, oCallS ex 191 2), (84, oLst 8 2), (86, oIld 3 1), (87, oIf_ne 98), (90, oLld 4 2), (92, oLld 8 2), (94, pS (fDL (fun x y => x / y)) 1), (95, oGoto 103), (98, oFg [0, 1, 2, 3, 4] (oLld 6 2)), (100, oLld 8 2), (102, pS (fDL (fun x y => x / y)) 1), (103, oFg [0, 1, 2, 3, 4, 6, 8] (oRetL))]
set_option maxRecDepth 20000 in
theorem ta_X9_odds : TabOk MIS T_X9_odds mi_X9_odds := ⟨by decide +kernel, fun l d ex hex p e R s m args below meth c cells slots ad D cI cZ A cx hR hA hr =>
  OkT.cons (ok_aload_n (kn := 0) rfl cx (by decide +kernel)) <|
  OkT.cons (ok_iconst (n := 0) cx (by decide +kernel) rfl) <|
  OkT.cons (ok_putI fp_RX9_69 (by decide) rfl cx (by decide +kernel)) <|
  OkT.cons (ok_iload_n (kn := 1) rfl cx (by decide +kernel)) <|
  OkT.cons (ok_iconst (n := 0) cx (by decide +kernel) rfl) <|
  OkT.cons (ok_bipush (n := 9) cx (by decide +kernel) rfl) <|
  OkT.cons (ok_callS hex rfl ca_RX9_72 hR hA cx (by decide +kernel)) <|
  OkT.cons (ok_If_eq (off := 22) (by decide) cx (by decide +kernel)) <|
  OkT.cons (ok_iload_n (kn := 2) rfl cx (by decide +kernel)) <|
  OkT.cons (ok_iconst (n := 0) cx (by decide +kernel) rfl) <|
  OkT.cons (ok_bipush (n := 10) cx (by decide +kernel) rfl) <|
  OkT.cons (ok_callS hex rfl ca_RX9_72 hR hA cx (by decide +kernel)) <|
  OkT.cons (ok_If_eq (off := 12) (by decide) cx (by decide +kernel)) <|
  OkT.cons (ok_iload_n (kn := 3) rfl cx (by decide +kernel)) <|
  OkT.cons (ok_iconst (n := 0) cx (by decide +kernel) rfl) <|
  OkT.cons (ok_iconst (n := 1) cx (by decide +kernel) rfl) <|
  OkT.cons (ok_callS hex rfl ca_RX9_72 hR hA cx (by decide +kernel)) <|
  OkT.cons (ok_If_ne (off := 7) (by decide) cx (by decide +kernel)) <|
  OkT.cons (ok_fg [0, 1, 2, 3, 4, 6, 8] (ok_ldc2 cx w_1202 (by decide +kernel))) <|
  OkT.cons (ok_retL hr (by decide +kernel)) <|
  OkT.cons (ok_fg [0, 4, 6, 8] (ok_lconst (n := 1) cx (by decide +kernel) rfl)) <|
  OkT.cons (ok_lstore cx (by decide +kernel)) <|
  OkT.cons (ok_lconst (n := 1) cx (by decide +kernel) rfl) <|
  OkT.cons (ok_lstore cx (by decide +kernel)) <|
  OkT.cons (ok_iconst (n := 0) cx (by decide +kernel) rfl) <|
  OkT.cons (ok_istore cx (by decide +kernel)) <|
  OkT.cons (ok_fg [0] (ok_iload cx (by decide +kernel))) <|
  OkT.cons (ok_iload_n (kn := 1) rfl cx (by decide +kernel)) <|
  OkT.cons (ok_Ic_ge (off := 27) (by decide) cx (by decide +kernel)) <|
  OkT.cons (ok_lload cx (by decide +kernel)) <|
  OkT.cons (ok_bipush (n := 10) cx (by decide +kernel) rfl) <|
  OkT.cons (ok_iload_n (kn := 2) rfl cx (by decide +kernel)) <|
  OkT.cons (ok_isub cx (by decide +kernel)) <|
  OkT.cons (ok_i2l cx (by decide +kernel)) <|
  OkT.cons (ok_lmul cx (by decide +kernel)) <|
  OkT.cons (ok_lstore cx (by decide +kernel)) <|
  OkT.cons (ok_lload cx (by decide +kernel)) <|
  OkT.cons (ok_ldc2 cx w_1203 (by decide +kernel)) <|
  OkT.cons (ok_lmul cx (by decide +kernel)) <|
  OkT.cons (ok_lstore cx (by decide +kernel)) <|
  OkT.cons (ok_iinc (n := 1) rfl cx (by decide +kernel)) <|
  OkT.cons (ok_goto (off := (-27)) (by decide) cx (by decide +kernel)) <|
  OkT.cons (ok_fg [0, 1, 2, 8] (ok_lload cx (by decide +kernel))) <|
  OkT.cons (ok_lload cx (by decide +kernel)) <|
  OkT.cons (ok_callS hex rfl ca_RX9_240 hR hA cx (by decide +kernel)) <|
  OkT.cons (ok_lstore cx (by decide +kernel)) <|
  OkT.cons (ok_iload_n (kn := 3) rfl cx (by decide +kernel)) <|
  OkT.cons (ok_If_ne (off := 11) (by decide) cx (by decide +kernel)) <|
  OkT.cons (ok_lload cx (by decide +kernel)) <|
  OkT.cons (ok_lload cx (by decide +kernel)) <|
  OkT.cons (ok_ldiv cx (by decide +kernel)) <|
  OkT.cons (ok_goto (off := 8) (by decide) cx (by decide +kernel)) <|
  OkT.cons (ok_fg [0, 1, 2, 3, 4] (ok_lload cx (by decide +kernel))) <|
  OkT.cons (ok_lload cx (by decide +kernel)) <|
  OkT.cons (ok_ldiv cx (by decide +kernel)) <|
  OkT.cons (ok_fg [0, 1, 2, 3, 4, 6, 8] (ok_retL hr (by decide +kernel))) <|
  OkT.nil⟩
def T_X9_rate (ex : Ex) : Tb := [(0, oAld 0 1), (1, pS (fPush (.int 0)) 1), (2, oPutI 7 0), (5, oIld 1 1), (6, pS (fPush (.int 0)) 1), (7, pS (fPush (.int 5)) 1), (8, oCallS ex 135 3), (11, oIf_eq 22), (14, oAld 0 1), (15, oIld 2 1), (16, oCallV ex 151 1 7), (19, oIf_ne 25), (22, oFg [0, 1, 2, 3, 4, 5, 6, 7, 8, 9] (pS (fPush (.int (-1000000))) 2)), (24, oRetI), (25, oFg [3, 4, 5, 6, 7, 8, 9] (oAld 0 1)), (26, oGetA 7 2), (29, pS (fPush (.int 4)) 1), (30, oIld 2 1), (31, pS (fB (fun x y => x * y)) 1), (32, oIald), (33, oIst 3 1), (34, oIld 3 1), (35, oAld 0 1), (36, oGetA 7 2), (39, pS (fPush (.int 4)) 1), (40, oIld 2 1), (41, pS (fB (fun x y => x * y)) 1), (42, pS (fPush (.int 2)) 1), (43, pS (fB (fun x y => x + y)) 1), (44, oIald), (45, pS (fB (fun x y => x + y)) 1), (46, oIst 4 2), (48, oIld 3 1), (49, oAld 0 1), (50, oGetA 7 2), (53, pS (fPush (.int 4)) 1), (54, oIld 2 1), (55, pS (fB (fun x y => x * y)) 1), (56, pS (fPush (.int 3)) 1), (57, pS (fB (fun x y => x + y)) 1), (58, oIald), (59, pS (fB (fun x y => x - y)) 1), (60, oIst 5 2), (62, pS (fPush (.int 0)) 1), (63, oIst 6 2), (65, pS (fPush (.int 0)) 1), (66, oIst 7 2), (68, pS (fPush (.int 0)) 1), (69, oIst 8 2), (71, oFg [9] (oIld 8 2)), (73, oAld 0 1), (74, oGetI 7 15), (77, oIc_ge 106), (80, oIld 6 2), (82, oAld 0 1), (83, oIld 8 2), (85, oIld 2 1), (86, oCallV ex 161 2 7), (89, oIf_eq 96), (92, pS (fPush (.int 1)) 1), (93, oGoto 97), (96, oFg [6, 9] (pS (fPush (.int 0)) 1)), (97, oFg [6, 9] (pS (fB (fun x y => x + y)) 1)), (98, oIst 6 2), (100, oInc 8 1), (103, oGoto 71), (106, oFg [8, 9] (pS (fPush (.int 0)) 1)), (107, oIst 8 2), (109, oFg [9] (oIld 8 2)), (111, oAld 0 1), (112, oGetI 7 14), (115, oIc_ge 169), (118, oAld 0 1), (119, oGetA 7 6), (122, oIld 8 2), (124, oIald), (125, oIst 9 2), (127, oIld 9 2), (129, oIf_le 163), (132, oIld 7 2), (134, oIld 9 2), (136, pS (fPush (.int 6)) 2), (138, pS (fDv (fun x y => x - x / y * y)) 1), (139, oIld 2 1), (140, pS (fPush (.int 1)) 1), (141, pS (fB (fun x y => x + y)) 1), (142, oIc_ne 149), (145, pS (fPush (.int 1)) 1), (146, oGoto 150), (149, oFg [7] (pS (fPush (.int 0)) 1)), (150, oFg [7] (pS (fB (fun x y => x + y)) 1)), (151, oIst 7 2), (153, oIld 9 2), (155, pS (fPush (.int 6)) 2), (157, pS (fDv (fun x y => x / y)) 1), (158, oIst 9 2), (160, oGoto 127), (163, oFg [9] (oInc 8 1)), (166, oGoto 109), (169, oFg [2, 8, 9] (oAld 0 1)), (170, pS fDup 1), (171, oGetL 7 1), (174, oIld 1 1), (175, oIf_ne 182), (178, pS (fPush (.long 1)) 1), (179, oGoto 229), (182, oFg [0, 2, 8, 9] (oIld 1 1)), (183, pS (fPush (.int 1)) 1), (184, oIc_ne 193), (187, pS (fPush (.long 11)) 3), (190, oGoto 229), (193, oFg [0, 2, 8, 9] (oIld 1 1)), (194, pS (fPush (.int 2)) 1), (195, oIc_ne 204), (198, pS (fPush (.long 101)) 3), (201, oGoto 229), (204, oFg [0, 2, 8, 9] (oIld 1 1)), (205, pS (fPush (.int 3)) 1), (206, oIc_ne 215), (209, pS (fPush (.long 1011)) 3), (212, oGoto 229), (215, oFg [0, 2, 8, 9] (oIld 1 1)), (216, pS (fPush (.int 4)) 1), (217, oIc_ne 226), (220, pS (fPush (.long 10101)) 3), (223, oGoto 229), (226, oFg [0, 2, 8, 9] (pS (fPush (.long 100001)) 3)), (229, oFg [0, 2, 8, 9] (pS (fBL (fun x y => x + y)) 1)), (230, oPutL 7 1), (233, oIld 1 1), (234, oIf_ne 241), (237, oIld 3 1), (238, oGoto 290), (241, oFg [0, 2, 8, 9] (oIld 1 1)), (242, pS (fPush (.int 1)) 1), (243, oIc_ne 251), (246, oIld 4 2), (248, oGoto 290), (251, oFg [0, 2, 8, 9] (oIld 1 1)), (252, pS (fPush (.int 2)) 1), (253, oIc_ne 261), (256, oIld 5 2), (258, oGoto 290), (261, oFg [0, 2, 8, 9] (oIld 1 1)), (262, pS (fPush (.int 3)) 1), (263, oIc_ne 273), (266, pS (fPush (.int 2)) 1), (267, oIld 4 2), (269, pS (fB (fun x y => x * y)) 1), (270, oGoto 290), (273, oFg [0, 2, 4, 8, 9] (oIld 1 1)), (274, pS (fPush (.int 4)) 1), (275, oIc_ne 286), (278, oIld 5 2), (280, oIld 6 2), (282, pS (fB (fun x y => x + y)) 1), (283, oGoto 290), (286, oFg [0, 1, 2, 4, 5, 6, 8, 9] (oIld 3 1)), (287, oIld 7 2), (289, pS (fB (fun x y => x + y)) 1), (290, oFg [0, 1, 2, 3, 4, 5, 6, 7, 8, 9] (oRetI))]
set_option maxRecDepth 20000 in
theorem ta_X9_rate : TabOk MIS T_X9_rate mi_X9_rate := ⟨by decide +kernel, fun l d ex hex p e R s m args below meth c cells slots ad D cI cZ A cx hR hA hr =>
  OkT.cons (ok_aload_n (kn := 0) rfl cx (by decide +kernel)) <|
  OkT.cons (ok_iconst (n := 0) cx (by decide +kernel) rfl) <|
  OkT.cons (ok_putI fp_RX9_69 (by decide) rfl cx (by decide +kernel)) <|
  OkT.cons (ok_iload_n (kn := 1) rfl cx (by decide +kernel)) <|
  OkT.cons (ok_iconst (n := 0) cx (by decide +kernel) rfl) <|
  OkT.cons (ok_iconst (n := 5) cx (by decide +kernel) rfl) <|
  OkT.cons (ok_callS hex rfl ca_RX9_72 hR hA cx (by decide +kernel)) <|
  OkT.cons (ok_If_eq (off := 11) (by decide) cx (by decide +kernel)) <|
  OkT.cons (ok_aload_n (kn := 0) rfl cx (by decide +kernel)) <|
  OkT.cons (ok_iload_n (kn := 2) rfl cx (by decide +kernel)) <|
  OkT.cons (ok_callV hex rfl rfl (by decide) ca_RX9_167 hR hA cx (by decide +kernel)) <|
  OkT.cons (ok_If_ne (off := 6) (by decide) cx (by decide +kernel)) <|
  OkT.cons (ok_fg [0, 1, 2, 3, 4, 5, 6, 7, 8, 9] (ok_ldc cx w_1211 (by decide +kernel))) <|
  OkT.cons (ok_retI hr (by decide +kernel)) <|
  OkT.cons (ok_fg [3, 4, 5, 6, 7, 8, 9] (ok_aload_n (kn := 0) rfl cx (by decide +kernel))) <|
  OkT.cons (ok_getA (k := 9) fg_RX9_13 (by decide) rfl cx (by decide +kernel)) <|
  OkT.cons (ok_iconst (n := 4) cx (by decide +kernel) rfl) <|
  OkT.cons (ok_iload_n (kn := 2) rfl cx (by decide +kernel)) <|
  OkT.cons (ok_imul cx (by decide +kernel)) <|
  OkT.cons (ok_Iald cx (by decide +kernel)) <|
  OkT.cons (ok_istore_n (kn := 3) rfl cx (by decide +kernel)) <|
  OkT.cons (ok_iload_n (kn := 3) rfl cx (by decide +kernel)) <|
  OkT.cons (ok_aload_n (kn := 0) rfl cx (by decide +kernel)) <|
  OkT.cons (ok_getA (k := 9) fg_RX9_13 (by decide) rfl cx (by decide +kernel)) <|
  OkT.cons (ok_iconst (n := 4) cx (by decide +kernel) rfl) <|
  OkT.cons (ok_iload_n (kn := 2) rfl cx (by decide +kernel)) <|
  OkT.cons (ok_imul cx (by decide +kernel)) <|
  OkT.cons (ok_iconst (n := 2) cx (by decide +kernel) rfl) <|
  OkT.cons (ok_iadd cx (by decide +kernel)) <|
  OkT.cons (ok_Iald cx (by decide +kernel)) <|
  OkT.cons (ok_iadd cx (by decide +kernel)) <|
  OkT.cons (ok_istore cx (by decide +kernel)) <|
  OkT.cons (ok_iload_n (kn := 3) rfl cx (by decide +kernel)) <|
  OkT.cons (ok_aload_n (kn := 0) rfl cx (by decide +kernel)) <|
  OkT.cons (ok_getA (k := 9) fg_RX9_13 (by decide) rfl cx (by decide +kernel)) <|
  OkT.cons (ok_iconst (n := 4) cx (by decide +kernel) rfl) <|
  OkT.cons (ok_iload_n (kn := 2) rfl cx (by decide +kernel)) <|
  OkT.cons (ok_imul cx (by decide +kernel)) <|
  OkT.cons (ok_iconst (n := 3) cx (by decide +kernel) rfl) <|
  OkT.cons (ok_iadd cx (by decide +kernel)) <|
  OkT.cons (ok_Iald cx (by decide +kernel)) <|
  OkT.cons (ok_isub cx (by decide +kernel)) <|
  OkT.cons (ok_istore cx (by decide +kernel)) <|
  OkT.cons (ok_iconst (n := 0) cx (by decide +kernel) rfl) <|
  OkT.cons (ok_istore cx (by decide +kernel)) <|
  OkT.cons (ok_iconst (n := 0) cx (by decide +kernel) rfl) <|
  OkT.cons (ok_istore cx (by decide +kernel)) <|
  OkT.cons (ok_iconst (n := 0) cx (by decide +kernel) rfl) <|
  OkT.cons (ok_istore cx (by decide +kernel)) <|
  OkT.cons (ok_fg [9] (ok_iload cx (by decide +kernel))) <|
  OkT.cons (ok_aload_n (kn := 0) rfl cx (by decide +kernel)) <|
  OkT.cons (ok_getI fg_RX9_154 (by decide) rfl cx (by decide +kernel)) <|
  OkT.cons (ok_Ic_ge (off := 29) (by decide) cx (by decide +kernel)) <|
  OkT.cons (ok_iload cx (by decide +kernel)) <|
  OkT.cons (ok_aload_n (kn := 0) rfl cx (by decide +kernel)) <|
  OkT.cons (ok_iload cx (by decide +kernel)) <|
  OkT.cons (ok_iload_n (kn := 2) rfl cx (by decide +kernel)) <|
  OkT.cons (ok_callV hex rfl rfl (by decide) ca_RX9_185 hR hA cx (by decide +kernel)) <|
  OkT.cons (ok_If_eq (off := 7) (by decide) cx (by decide +kernel)) <|
  OkT.cons (ok_iconst (n := 1) cx (by decide +kernel) rfl) <|
  OkT.cons (ok_goto (off := 4) (by decide) cx (by decide +kernel)) <|
  OkT.cons (ok_fg [6, 9] (ok_iconst (n := 0) cx (by decide +kernel) rfl)) <|
  OkT.cons (ok_fg [6, 9] (ok_iadd cx (by decide +kernel))) <|
  OkT.cons (ok_istore cx (by decide +kernel)) <|
  OkT.cons (ok_iinc (n := 1) rfl cx (by decide +kernel)) <|
  OkT.cons (ok_goto (off := (-32)) (by decide) cx (by decide +kernel)) <|
  OkT.cons (ok_fg [8, 9] (ok_iconst (n := 0) cx (by decide +kernel) rfl)) <|
  OkT.cons (ok_istore cx (by decide +kernel)) <|
  OkT.cons (ok_fg [9] (ok_iload cx (by decide +kernel))) <|
  OkT.cons (ok_aload_n (kn := 0) rfl cx (by decide +kernel)) <|
  OkT.cons (ok_getI fg_RX9_151 (by decide) rfl cx (by decide +kernel)) <|
  OkT.cons (ok_Ic_ge (off := 54) (by decide) cx (by decide +kernel)) <|
  OkT.cons (ok_aload_n (kn := 0) rfl cx (by decide +kernel)) <|
  OkT.cons (ok_getA (k := 19) fg_RX9_25 (by decide) rfl cx (by decide +kernel)) <|
  OkT.cons (ok_iload cx (by decide +kernel)) <|
  OkT.cons (ok_Iald cx (by decide +kernel)) <|
  OkT.cons (ok_istore cx (by decide +kernel)) <|
  OkT.cons (ok_iload cx (by decide +kernel)) <|
  OkT.cons (ok_If_le (off := 34) (by decide) cx (by decide +kernel)) <|
  OkT.cons (ok_iload cx (by decide +kernel)) <|
  OkT.cons (ok_iload cx (by decide +kernel)) <|
  OkT.cons (ok_bipush (n := 6) cx (by decide +kernel) rfl) <|
  OkT.cons (ok_irem cx (by decide +kernel)) <|
  OkT.cons (ok_iload_n (kn := 2) rfl cx (by decide +kernel)) <|
  OkT.cons (ok_iconst (n := 1) cx (by decide +kernel) rfl) <|
  OkT.cons (ok_iadd cx (by decide +kernel)) <|
  OkT.cons (ok_Ic_ne (off := 7) (by decide) cx (by decide +kernel)) <|
  OkT.cons (ok_iconst (n := 1) cx (by decide +kernel) rfl) <|
  OkT.cons (ok_goto (off := 4) (by decide) cx (by decide +kernel)) <|
  OkT.cons (ok_fg [7] (ok_iconst (n := 0) cx (by decide +kernel) rfl)) <|
  OkT.cons (ok_fg [7] (ok_iadd cx (by decide +kernel))) <|
  OkT.cons (ok_istore cx (by decide +kernel)) <|
  OkT.cons (ok_iload cx (by decide +kernel)) <|
  OkT.cons (ok_bipush (n := 6) cx (by decide +kernel) rfl) <|
  OkT.cons (ok_idiv cx (by decide +kernel)) <|
  OkT.cons (ok_istore cx (by decide +kernel)) <|
  OkT.cons (ok_goto (off := (-33)) (by decide) cx (by decide +kernel)) <|
  OkT.cons (ok_fg [9] (ok_iinc (n := 1) rfl cx (by decide +kernel))) <|
  OkT.cons (ok_goto (off := (-57)) (by decide) cx (by decide +kernel)) <|
  OkT.cons (ok_fg [2, 8, 9] (ok_aload_n (kn := 0) rfl cx (by decide +kernel))) <|
  OkT.cons (ok_dup cx (by decide +kernel)) <|
  OkT.cons (ok_getL fg_RX9_245 (by decide) rfl cx (by decide +kernel)) <|
  OkT.cons (ok_iload_n (kn := 1) rfl cx (by decide +kernel)) <|
  OkT.cons (ok_If_ne (off := 7) (by decide) cx (by decide +kernel)) <|
  OkT.cons (ok_lconst (n := 1) cx (by decide +kernel) rfl) <|
  OkT.cons (ok_goto (off := 50) (by decide) cx (by decide +kernel)) <|
  OkT.cons (ok_fg [0, 2, 8, 9] (ok_iload_n (kn := 1) rfl cx (by decide +kernel))) <|
  OkT.cons (ok_iconst (n := 1) cx (by decide +kernel) rfl) <|
  OkT.cons (ok_Ic_ne (off := 9) (by decide) cx (by decide +kernel)) <|
  OkT.cons (ok_ldc2 cx w_1212 (by decide +kernel)) <|
  OkT.cons (ok_goto (off := 39) (by decide) cx (by decide +kernel)) <|
  OkT.cons (ok_fg [0, 2, 8, 9] (ok_iload_n (kn := 1) rfl cx (by decide +kernel))) <|
  OkT.cons (ok_iconst (n := 2) cx (by decide +kernel) rfl) <|
  OkT.cons (ok_Ic_ne (off := 9) (by decide) cx (by decide +kernel)) <|
  OkT.cons (ok_ldc2 cx w_1213 (by decide +kernel)) <|
  OkT.cons (ok_goto (off := 28) (by decide) cx (by decide +kernel)) <|
  OkT.cons (ok_fg [0, 2, 8, 9] (ok_iload_n (kn := 1) rfl cx (by decide +kernel))) <|
  OkT.cons (ok_iconst (n := 3) cx (by decide +kernel) rfl) <|
  OkT.cons (ok_Ic_ne (off := 9) (by decide) cx (by decide +kernel)) <|
  OkT.cons (ok_ldc2 cx w_1214 (by decide +kernel)) <|
  OkT.cons (ok_goto (off := 17) (by decide) cx (by decide +kernel)) <|
  OkT.cons (ok_fg [0, 2, 8, 9] (ok_iload_n (kn := 1) rfl cx (by decide +kernel))) <|
  OkT.cons (ok_iconst (n := 4) cx (by decide +kernel) rfl) <|
  OkT.cons (ok_Ic_ne (off := 9) (by decide) cx (by decide +kernel)) <|
  OkT.cons (ok_ldc2 cx w_1215 (by decide +kernel)) <|
  OkT.cons (ok_goto (off := 6) (by decide) cx (by decide +kernel)) <|
  OkT.cons (ok_fg [0, 2, 8, 9] (ok_ldc2 cx w_1216 (by decide +kernel))) <|
  OkT.cons (ok_fg [0, 2, 8, 9] (ok_ladd cx (by decide +kernel))) <|
  OkT.cons (ok_putL fp_RX9_245 (by decide) rfl cx (by decide +kernel)) <|
  OkT.cons (ok_iload_n (kn := 1) rfl cx (by decide +kernel)) <|
  OkT.cons (ok_If_ne (off := 7) (by decide) cx (by decide +kernel)) <|
  OkT.cons (ok_iload_n (kn := 3) rfl cx (by decide +kernel)) <|
  OkT.cons (ok_goto (off := 52) (by decide) cx (by decide +kernel)) <|
  OkT.cons (ok_fg [0, 2, 8, 9] (ok_iload_n (kn := 1) rfl cx (by decide +kernel))) <|
  OkT.cons (ok_iconst (n := 1) cx (by decide +kernel) rfl) <|
  OkT.cons (ok_Ic_ne (off := 8) (by decide) cx (by decide +kernel)) <|
  OkT.cons (ok_iload cx (by decide +kernel)) <|
  OkT.cons (ok_goto (off := 42) (by decide) cx (by decide +kernel)) <|
  OkT.cons (ok_fg [0, 2, 8, 9] (ok_iload_n (kn := 1) rfl cx (by decide +kernel))) <|
  OkT.cons (ok_iconst (n := 2) cx (by decide +kernel) rfl) <|
  OkT.cons (ok_Ic_ne (off := 8) (by decide) cx (by decide +kernel)) <|
  OkT.cons (ok_iload cx (by decide +kernel)) <|
  OkT.cons (ok_goto (off := 32) (by decide) cx (by decide +kernel)) <|
  OkT.cons (ok_fg [0, 2, 8, 9] (ok_iload_n (kn := 1) rfl cx (by decide +kernel))) <|
  OkT.cons (ok_iconst (n := 3) cx (by decide +kernel) rfl) <|
  OkT.cons (ok_Ic_ne (off := 10) (by decide) cx (by decide +kernel)) <|
  OkT.cons (ok_iconst (n := 2) cx (by decide +kernel) rfl) <|
  OkT.cons (ok_iload cx (by decide +kernel)) <|
  OkT.cons (ok_imul cx (by decide +kernel)) <|
  OkT.cons (ok_goto (off := 20) (by decide) cx (by decide +kernel)) <|
  OkT.cons (ok_fg [0, 2, 4, 8, 9] (ok_iload_n (kn := 1) rfl cx (by decide +kernel))) <|
  OkT.cons (ok_iconst (n := 4) cx (by decide +kernel) rfl) <|
  OkT.cons (ok_Ic_ne (off := 11) (by decide) cx (by decide +kernel)) <|
  OkT.cons (ok_iload cx (by decide +kernel)) <|
  OkT.cons (ok_iload cx (by decide +kernel)) <|
  OkT.cons (ok_iadd cx (by decide +kernel)) <|
  OkT.cons (ok_goto (off := 7) (by decide) cx (by decide +kernel)) <|
  OkT.cons (ok_fg [0, 1, 2, 4, 5, 6, 8, 9] (ok_iload_n (kn := 3) rfl cx (by decide +kernel))) <|
  OkT.cons (ok_iload cx (by decide +kernel)) <|
  OkT.cons (ok_iadd cx (by decide +kernel)) <|
  OkT.cons (ok_fg [0, 1, 2, 3, 4, 5, 6, 7, 8, 9] (ok_retI hr (by decide +kernel))) <|
  OkT.nil⟩
def T_X9_keep (ex : Ex) : Tb := [(0, oAld 0 1), (1, pS (fPush (.int 0)) 1), (2, oPutI 7 0), (5, oIld 1 1), (6, pS (fPush (.int 0)) 1), (7, pS (fPush (.int 1)) 1), (8, oCallS ex 135 3), (11, oIf_ne 16), (14, pS (fPush (.int (-1))) 1), (15, oRetI), (16, oFg [2] (pS (fPush (.int 0)) 1)), (17, oIst 2 1), (18, oIld 2 1), (19, pS (fPush (.int 5)) 1), (20, oIc_ge 45), (23, oAld 0 1), (24, oGetA 7 7), (27, pS (fPush (.int 5)) 1), (28, oIld 1 1), (29, pS (fB (fun x y => x * y)) 1), (30, oIld 2 1), (31, pS (fB (fun x y => x + y)) 1), (32, oAld 0 1), (33, oGetA 7 6), (36, oIld 2 1), (37, oIald), (38, oIast), (39, oInc 2 1), (42, oGoto 18), (45, oFg [2] (oAld 0 1)), (46, oGetA 7 8), (49, oIld 1 1), (50, pS (fPush (.int 1)) 1), (51, oZast), (52, oAld 0 1), (53, oGetA 7 6), (56, pS (fPush (.int 4)) 1), (57, oIald), (58, oRetI)]
set_option maxRecDepth 20000 in
theorem ta_X9_keep : TabOk MIS T_X9_keep mi_X9_keep := ⟨by decide +kernel, fun l d ex hex p e R s m args below meth c cells slots ad D cI cZ A cx hR hA hr =>
  OkT.cons (ok_aload_n (kn := 0) rfl cx (by decide +kernel)) <|
  OkT.cons (ok_iconst (n := 0) cx (by decide +kernel) rfl) <|
  OkT.cons (ok_putI fp_RX9_69 (by decide) rfl cx (by decide +kernel)) <|
  OkT.cons (ok_iload_n (kn := 1) rfl cx (by decide +kernel)) <|
  OkT.cons (ok_iconst (n := 0) cx (by decide +kernel) rfl) <|
  OkT.cons (ok_iconst (n := 1) cx (by decide +kernel) rfl) <|
  OkT.cons (ok_callS hex rfl ca_RX9_72 hR hA cx (by decide +kernel)) <|
  OkT.cons (ok_If_ne (off := 5) (by decide) cx (by decide +kernel)) <|
  OkT.cons (ok_iconst (n := (-1)) cx (by decide +kernel) rfl) <|
  OkT.cons (ok_retI hr (by decide +kernel)) <|
  OkT.cons (ok_fg [2] (ok_iconst (n := 0) cx (by decide +kernel) rfl)) <|
  OkT.cons (ok_istore_n (kn := 2) rfl cx (by decide +kernel)) <|
  OkT.cons (ok_iload_n (kn := 2) rfl cx (by decide +kernel)) <|
  OkT.cons (ok_iconst (n := 5) cx (by decide +kernel) rfl) <|
  OkT.cons (ok_Ic_ge (off := 25) (by decide) cx (by decide +kernel)) <|
  OkT.cons (ok_aload_n (kn := 0) rfl cx (by decide +kernel)) <|
  OkT.cons (ok_getA (k := 20) fg_RX9_28 (by decide) rfl cx (by decide +kernel)) <|
  OkT.cons (ok_iconst (n := 5) cx (by decide +kernel) rfl) <|
  OkT.cons (ok_iload_n (kn := 1) rfl cx (by decide +kernel)) <|
  OkT.cons (ok_imul cx (by decide +kernel)) <|
  OkT.cons (ok_iload_n (kn := 2) rfl cx (by decide +kernel)) <|
  OkT.cons (ok_iadd cx (by decide +kernel)) <|
  OkT.cons (ok_aload_n (kn := 0) rfl cx (by decide +kernel)) <|
  OkT.cons (ok_getA (k := 19) fg_RX9_25 (by decide) rfl cx (by decide +kernel)) <|
  OkT.cons (ok_iload_n (kn := 2) rfl cx (by decide +kernel)) <|
  OkT.cons (ok_Iald cx (by decide +kernel)) <|
  OkT.cons (ok_Iast cx (by decide +kernel)) <|
  OkT.cons (ok_iinc (n := 1) rfl cx (by decide +kernel)) <|
  OkT.cons (ok_goto (off := (-24)) (by decide) cx (by decide +kernel)) <|
  OkT.cons (ok_fg [2] (ok_aload_n (kn := 0) rfl cx (by decide +kernel))) <|
  OkT.cons (ok_getA (k := 21) fg_RX9_31 (by decide) rfl cx (by decide +kernel)) <|
  OkT.cons (ok_iload_n (kn := 1) rfl cx (by decide +kernel)) <|
  OkT.cons (ok_iconst (n := 1) cx (by decide +kernel) rfl) <|
  OkT.cons (ok_Zast cx (by decide +kernel)) <|
  OkT.cons (ok_aload_n (kn := 0) rfl cx (by decide +kernel)) <|
  OkT.cons (ok_getA (k := 19) fg_RX9_25 (by decide) rfl cx (by decide +kernel)) <|
  OkT.cons (ok_iconst (n := 4) cx (by decide +kernel) rfl) <|
  OkT.cons (ok_Iald cx (by decide +kernel)) <|
  OkT.cons (ok_retI hr (by decide +kernel)) <|
  OkT.nil⟩
def T_X9_back (ex : Ex) : Tb := [(0, oAld 0 1), (1, pS (fPush (.int 0)) 1), (2, oPutI 7 0), (5, oIld 1 1), (6, pS (fPush (.int 0)) 1), (7, pS (fPush (.int 1)) 1), (8, oCallS ex 135 3), (11, oIf_ne 16), (14, pS (fPush (.int (-1))) 1), (15, oRetI), (16, oFg [2] (oAld 0 1)), (17, oGetA 7 8), (20, oIld 1 1), (21, oZald), (22, oIf_ne 28), (25, pS (fPush (.int (-2))) 2), (27, oRetI), (28, oFg [2] (pS (fPush (.int 0)) 1)), (29, oIst 2 1), (30, oIld 2 1), (31, pS (fPush (.int 5)) 1), (32, oIc_ge 57), (35, oAld 0 1), (36, oGetA 7 6), (39, oIld 2 1), (40, oAld 0 1), (41, oGetA 7 7), (44, pS (fPush (.int 5)) 1), (45, oIld 1 1), (46, pS (fB (fun x y => x * y)) 1), (47, oIld 2 1), (48, pS (fB (fun x y => x + y)) 1), (49, oIald), (50, oIast), (51, oInc 2 1), (54, oGoto 30), (57, oFg [1, 2] (oAld 0 1)), (58, pS (fPush (.int 0)) 1), (59, oPutI 7 23), (62, oAld 0 1), (63, oGetA 7 6), (66, pS (fPush (.int 4)) 1), (67, oIald), (68, oRetI)]
set_option maxRecDepth 20000 in
theorem ta_X9_back : TabOk MIS T_X9_back mi_X9_back := ⟨by decide +kernel, fun l d ex hex p e R s m args below meth c cells slots ad D cI cZ A cx hR hA hr =>
  OkT.cons (ok_aload_n (kn := 0) rfl cx (by decide +kernel)) <|
  OkT.cons (ok_iconst (n := 0) cx (by decide +kernel) rfl) <|
  OkT.cons (ok_putI fp_RX9_69 (by decide) rfl cx (by decide +kernel)) <|
  OkT.cons (ok_iload_n (kn := 1) rfl cx (by decide +kernel)) <|
  OkT.cons (ok_iconst (n := 0) cx (by decide +kernel) rfl) <|
  OkT.cons (ok_iconst (n := 1) cx (by decide +kernel) rfl) <|
  OkT.cons (ok_callS hex rfl ca_RX9_72 hR hA cx (by decide +kernel)) <|
  OkT.cons (ok_If_ne (off := 5) (by decide) cx (by decide +kernel)) <|
  OkT.cons (ok_iconst (n := (-1)) cx (by decide +kernel) rfl) <|
  OkT.cons (ok_retI hr (by decide +kernel)) <|
  OkT.cons (ok_fg [2] (ok_aload_n (kn := 0) rfl cx (by decide +kernel))) <|
  OkT.cons (ok_getA (k := 21) fg_RX9_31 (by decide) rfl cx (by decide +kernel)) <|
  OkT.cons (ok_iload_n (kn := 1) rfl cx (by decide +kernel)) <|
  OkT.cons (ok_Zald cx (by decide +kernel)) <|
  OkT.cons (ok_If_ne (off := 6) (by decide) cx (by decide +kernel)) <|
  OkT.cons (ok_bipush (n := (-2)) cx (by decide +kernel) rfl) <|
  OkT.cons (ok_retI hr (by decide +kernel)) <|
  OkT.cons (ok_fg [2] (ok_iconst (n := 0) cx (by decide +kernel) rfl)) <|
  OkT.cons (ok_istore_n (kn := 2) rfl cx (by decide +kernel)) <|
  OkT.cons (ok_iload_n (kn := 2) rfl cx (by decide +kernel)) <|
  OkT.cons (ok_iconst (n := 5) cx (by decide +kernel) rfl) <|
  OkT.cons (ok_Ic_ge (off := 25) (by decide) cx (by decide +kernel)) <|
  OkT.cons (ok_aload_n (kn := 0) rfl cx (by decide +kernel)) <|
  OkT.cons (ok_getA (k := 19) fg_RX9_25 (by decide) rfl cx (by decide +kernel)) <|
  OkT.cons (ok_iload_n (kn := 2) rfl cx (by decide +kernel)) <|
  OkT.cons (ok_aload_n (kn := 0) rfl cx (by decide +kernel)) <|
  OkT.cons (ok_getA (k := 20) fg_RX9_28 (by decide) rfl cx (by decide +kernel)) <|
  OkT.cons (ok_iconst (n := 5) cx (by decide +kernel) rfl) <|
  OkT.cons (ok_iload_n (kn := 1) rfl cx (by decide +kernel)) <|
  OkT.cons (ok_imul cx (by decide +kernel)) <|
  OkT.cons (ok_iload_n (kn := 2) rfl cx (by decide +kernel)) <|
  OkT.cons (ok_iadd cx (by decide +kernel)) <|
  OkT.cons (ok_Iald cx (by decide +kernel)) <|
  OkT.cons (ok_Iast cx (by decide +kernel)) <|
  OkT.cons (ok_iinc (n := 1) rfl cx (by decide +kernel)) <|
  OkT.cons (ok_goto (off := (-24)) (by decide) cx (by decide +kernel)) <|
  OkT.cons (ok_fg [1, 2] (ok_aload_n (kn := 0) rfl cx (by decide +kernel))) <|
  OkT.cons (ok_iconst (n := 0) cx (by decide +kernel) rfl) <|
  OkT.cons (ok_putI fp_RX9_157 (by decide) rfl cx (by decide +kernel)) <|
  OkT.cons (ok_aload_n (kn := 0) rfl cx (by decide +kernel)) <|
  OkT.cons (ok_getA (k := 19) fg_RX9_25 (by decide) rfl cx (by decide +kernel)) <|
  OkT.cons (ok_iconst (n := 4) cx (by decide +kernel) rfl) <|
  OkT.cons (ok_Iald cx (by decide +kernel)) <|
  OkT.cons (ok_retI hr (by decide +kernel)) <|
  OkT.nil⟩
def T_X9_count (ex : Ex) : Tb := [(0, oAld 0 1), (1, pS (fPush (.int 0)) 1), (2, oPutI 7 0), (5, oIld 1 1), (6, pS (fPush (.int 4)) 1), (7, oIc_ge 59), (10, oIld 1 1), (11, oIf_ne 21), (14, oAld 0 1), (15, oGetI 7 13), (18, oGoto 58), (21, oIld 1 1), (22, pS (fPush (.int 1)) 1), (23, oIc_ne 33), (26, oAld 0 1), (27, oGetI 7 14), (30, oGoto 58), (33, oIld 1 1), (34, pS (fPush (.int 2)) 1), (35, oIc_ne 45), (38, oAld 0 1), (39, oGetI 7 15), (42, oGoto 58), (45, oIld 1 1), (46, pS (fPush (.int 3)) 1), (47, oIc_ne 57), (50, oAld 0 1), (51, oGetI 7 26), (54, oGoto 58), (57, oFg [0, 1] (pS (fPush (.int (-1))) 1)), (58, oFg [0, 1] (oRetI)), (59, oIld 1 1), (60, pS (fPush (.int 4)) 1), (61, oIc_ne 71), (64, oAld 0 1), (65, oGetI 7 3), (68, oGoto 95), (71, oIld 1 1), (72, pS (fPush (.int 5)) 1), (73, pS (fPush (.int 7)) 2), (75, oCallS ex 135 3), (78, oIf_eq 94), (81, oAld 0 1), (82, oGetA 7 5), (85, pS (fPush (.int 3)) 1), (86, oIld 1 1), (87, pS (fB (fun x y => x + y)) 1), (88, pS (fPush (.int 5)) 1), (89, pS (fB (fun x y => x - y)) 1), (90, oIald), (91, oGoto 95), (94, oFg [0, 1] (pS (fPush (.int (-1))) 1)), (95, oFg [0, 1] (oRetI))]
set_option maxRecDepth 20000 in
theorem ta_X9_count : TabOk MIS T_X9_count mi_X9_count := ⟨by decide +kernel, fun l d ex hex p e R s m args below meth c cells slots ad D cI cZ A cx hR hA hr =>
  OkT.cons (ok_aload_n (kn := 0) rfl cx (by decide +kernel)) <|
  OkT.cons (ok_iconst (n := 0) cx (by decide +kernel) rfl) <|
  OkT.cons (ok_putI fp_RX9_69 (by decide) rfl cx (by decide +kernel)) <|
  OkT.cons (ok_iload_n (kn := 1) rfl cx (by decide +kernel)) <|
  OkT.cons (ok_iconst (n := 4) cx (by decide +kernel) rfl) <|
  OkT.cons (ok_Ic_ge (off := 52) (by decide) cx (by decide +kernel)) <|
  OkT.cons (ok_iload_n (kn := 1) rfl cx (by decide +kernel)) <|
  OkT.cons (ok_If_ne (off := 10) (by decide) cx (by decide +kernel)) <|
  OkT.cons (ok_aload_n (kn := 0) rfl cx (by decide +kernel)) <|
  OkT.cons (ok_getI fg_RX9_148 (by decide) rfl cx (by decide +kernel)) <|
  OkT.cons (ok_goto (off := 40) (by decide) cx (by decide +kernel)) <|
  OkT.cons (ok_iload_n (kn := 1) rfl cx (by decide +kernel)) <|
  OkT.cons (ok_iconst (n := 1) cx (by decide +kernel) rfl) <|
  OkT.cons (ok_Ic_ne (off := 10) (by decide) cx (by decide +kernel)) <|
  OkT.cons (ok_aload_n (kn := 0) rfl cx (by decide +kernel)) <|
  OkT.cons (ok_getI fg_RX9_151 (by decide) rfl cx (by decide +kernel)) <|
  OkT.cons (ok_goto (off := 28) (by decide) cx (by decide +kernel)) <|
  OkT.cons (ok_iload_n (kn := 1) rfl cx (by decide +kernel)) <|
  OkT.cons (ok_iconst (n := 2) cx (by decide +kernel) rfl) <|
  OkT.cons (ok_Ic_ne (off := 10) (by decide) cx (by decide +kernel)) <|
  OkT.cons (ok_aload_n (kn := 0) rfl cx (by decide +kernel)) <|
  OkT.cons (ok_getI fg_RX9_154 (by decide) rfl cx (by decide +kernel)) <|
  OkT.cons (ok_goto (off := 16) (by decide) cx (by decide +kernel)) <|
  OkT.cons (ok_iload_n (kn := 1) rfl cx (by decide +kernel)) <|
  OkT.cons (ok_iconst (n := 3) cx (by decide +kernel) rfl) <|
  OkT.cons (ok_Ic_ne (off := 10) (by decide) cx (by decide +kernel)) <|
  OkT.cons (ok_aload_n (kn := 0) rfl cx (by decide +kernel)) <|
  OkT.cons (ok_getI fg_RX9_160 (by decide) rfl cx (by decide +kernel)) <|
  OkT.cons (ok_goto (off := 4) (by decide) cx (by decide +kernel)) <|
  OkT.cons (ok_fg [0, 1] (ok_iconst (n := (-1)) cx (by decide +kernel) rfl)) <|
  OkT.cons (ok_fg [0, 1] (ok_retI hr (by decide +kernel))) <|
  OkT.cons (ok_iload_n (kn := 1) rfl cx (by decide +kernel)) <|
  OkT.cons (ok_iconst (n := 4) cx (by decide +kernel) rfl) <|
  OkT.cons (ok_Ic_ne (off := 10) (by decide) cx (by decide +kernel)) <|
  OkT.cons (ok_aload_n (kn := 0) rfl cx (by decide +kernel)) <|
  OkT.cons (ok_getI fg_RX9_76 (by decide) rfl cx (by decide +kernel)) <|
  OkT.cons (ok_goto (off := 27) (by decide) cx (by decide +kernel)) <|
  OkT.cons (ok_iload_n (kn := 1) rfl cx (by decide +kernel)) <|
  OkT.cons (ok_iconst (n := 5) cx (by decide +kernel) rfl) <|
  OkT.cons (ok_bipush (n := 7) cx (by decide +kernel) rfl) <|
  OkT.cons (ok_callS hex rfl ca_RX9_72 hR hA cx (by decide +kernel)) <|
  OkT.cons (ok_If_eq (off := 16) (by decide) cx (by decide +kernel)) <|
  OkT.cons (ok_aload_n (kn := 0) rfl cx (by decide +kernel)) <|
  OkT.cons (ok_getA (k := 12) fg_RX9_22 (by decide) rfl cx (by decide +kernel)) <|
  OkT.cons (ok_iconst (n := 3) cx (by decide +kernel) rfl) <|
  OkT.cons (ok_iload_n (kn := 1) rfl cx (by decide +kernel)) <|
  OkT.cons (ok_iadd cx (by decide +kernel)) <|
  OkT.cons (ok_iconst (n := 5) cx (by decide +kernel) rfl) <|
  OkT.cons (ok_isub cx (by decide +kernel)) <|
  OkT.cons (ok_Iald cx (by decide +kernel)) <|
  OkT.cons (ok_goto (off := 4) (by decide) cx (by decide +kernel)) <|
  OkT.cons (ok_fg [0, 1] (ok_iconst (n := (-1)) cx (by decide +kernel) rfl)) <|
  OkT.cons (ok_fg [0, 1] (ok_retI hr (by decide +kernel))) <|
  OkT.nil⟩
def T_X9_trace (ex : Ex) : Tb := [(0, oAld 0 1), (1, pS (fPush (.int 0)) 1), (2, oPutI 7 0), (5, oAld 0 1), (6, oGetL 7 1), (9, oRetL)]
set_option maxRecDepth 20000 in
theorem ta_X9_trace : TabOk MIS T_X9_trace mi_X9_trace := ⟨by decide +kernel, fun l d ex hex p e R s m args below meth c cells slots ad D cI cZ A cx hR hA hr =>
  OkT.cons (ok_aload_n (kn := 0) rfl cx (by decide +kernel)) <|
  OkT.cons (ok_iconst (n := 0) cx (by decide +kernel) rfl) <|
  OkT.cons (ok_putI fp_RX9_69 (by decide) rfl cx (by decide +kernel)) <|
  OkT.cons (ok_aload_n (kn := 0) rfl cx (by decide +kernel)) <|
  OkT.cons (ok_getL fg_RX9_245 (by decide) rfl cx (by decide +kernel)) <|
  OkT.cons (ok_retL hr (by decide +kernel)) <|
  OkT.nil⟩
def T_J6_bitCount_0f7a4 (ex : Ex) : Tb := [(0, oIld 0 1), (1, oIld 0 1), (2, pS (fPush (.int 1)) 1), (3, pS (fB (fun x y => (x.toUInt32 >>> (y.toUInt32 &&& Int32.toUInt32 31)).toInt32)) 1), (4, pS (fPush (.int 1431655765)) 3), (7, pS (fB (fun x y => x &&& y)) 1), (8, pS (fB (fun x y => x - y)) 1), (9, oIst 0 1), (10, oIld 0 1), (11, pS (fPush (.int 858993459)) 3), (14, pS (fB (fun x y => x &&& y)) 1), (15, oIld 0 1), (16, pS (fPush (.int 2)) 1), (17, pS (fB (fun x y => (x.toUInt32 >>> (y.toUInt32 &&& Int32.toUInt32 31)).toInt32)) 1), (18, pS (fPush (.int 858993459)) 3), (21, pS (fB (fun x y => x &&& y)) 1), (22, pS (fB (fun x y => x + y)) 1), (23, oIst 0 1), (24, oIld 0 1), (25, oIld 0 1), (26, pS (fPush (.int 4)) 1), (27, pS (fB (fun x y => (x.toUInt32 >>> (y.toUInt32 &&& Int32.toUInt32 31)).toInt32)) 1), (28, pS (fB (fun x y => x + y)) 1), (29, pS (fPush (.int 252645135)) 3), (32, pS (fB (fun x y => x &&& y)) 1), (33, oIst 0 1), (34, oIld 0 1), (35, oIld 0 1), (36, pS (fPush (.int 8)) 2), (38, pS (fB (fun x y => (x.toUInt32 >>> (y.toUInt32 &&& Int32.toUInt32 31)).toInt32)) 1), (39, pS (fB (fun x y => x + y)) 1), (40, oIst 0 1), (41, oIld 0 1), (42, oIld 0 1), (43, pS (fPush (.int 16)) 2), (45, pS (fB (fun x y => (x.toUInt32 >>> (y.toUInt32 &&& Int32.toUInt32 31)).toInt32)) 1), (46, pS (fB (fun x y => x + y)) 1), (47, oIst 0 1), (48, oIld 0 1), (49, pS (fPush (.int 63)) 2), (51, pS (fB (fun x y => x &&& y)) 1), (52, oRetI)]
set_option maxRecDepth 20000 in
theorem ta_J6_bitCount_0f7a4 : TabOk MIS T_J6_bitCount_0f7a4 mi_J6_bitCount_0f7a4 := ⟨by decide +kernel, fun l d ex hex p e R s m args below meth c cells slots ad D cI cZ A cx hR hA hr =>
  OkT.cons (ok_iload_n (kn := 0) rfl cx (by decide +kernel)) <|
  OkT.cons (ok_iload_n (kn := 0) rfl cx (by decide +kernel)) <|
  OkT.cons (ok_iconst (n := 1) cx (by decide +kernel) rfl) <|
  OkT.cons (ok_iushr cx (by decide +kernel)) <|
  OkT.cons (ok_ldcw cx w_622 (by decide +kernel)) <|
  OkT.cons (ok_iand cx (by decide +kernel)) <|
  OkT.cons (ok_isub cx (by decide +kernel)) <|
  OkT.cons (ok_istore_n (kn := 0) rfl cx (by decide +kernel)) <|
  OkT.cons (ok_iload_n (kn := 0) rfl cx (by decide +kernel)) <|
  OkT.cons (ok_ldcw cx w_623 (by decide +kernel)) <|
  OkT.cons (ok_iand cx (by decide +kernel)) <|
  OkT.cons (ok_iload_n (kn := 0) rfl cx (by decide +kernel)) <|
  OkT.cons (ok_iconst (n := 2) cx (by decide +kernel) rfl) <|
  OkT.cons (ok_iushr cx (by decide +kernel)) <|
  OkT.cons (ok_ldcw cx w_623 (by decide +kernel)) <|
  OkT.cons (ok_iand cx (by decide +kernel)) <|
  OkT.cons (ok_iadd cx (by decide +kernel)) <|
  OkT.cons (ok_istore_n (kn := 0) rfl cx (by decide +kernel)) <|
  OkT.cons (ok_iload_n (kn := 0) rfl cx (by decide +kernel)) <|
  OkT.cons (ok_iload_n (kn := 0) rfl cx (by decide +kernel)) <|
  OkT.cons (ok_iconst (n := 4) cx (by decide +kernel) rfl) <|
  OkT.cons (ok_iushr cx (by decide +kernel)) <|
  OkT.cons (ok_iadd cx (by decide +kernel)) <|
  OkT.cons (ok_ldcw cx w_624 (by decide +kernel)) <|
  OkT.cons (ok_iand cx (by decide +kernel)) <|
  OkT.cons (ok_istore_n (kn := 0) rfl cx (by decide +kernel)) <|
  OkT.cons (ok_iload_n (kn := 0) rfl cx (by decide +kernel)) <|
  OkT.cons (ok_iload_n (kn := 0) rfl cx (by decide +kernel)) <|
  OkT.cons (ok_bipush (n := 8) cx (by decide +kernel) rfl) <|
  OkT.cons (ok_iushr cx (by decide +kernel)) <|
  OkT.cons (ok_iadd cx (by decide +kernel)) <|
  OkT.cons (ok_istore_n (kn := 0) rfl cx (by decide +kernel)) <|
  OkT.cons (ok_iload_n (kn := 0) rfl cx (by decide +kernel)) <|
  OkT.cons (ok_iload_n (kn := 0) rfl cx (by decide +kernel)) <|
  OkT.cons (ok_bipush (n := 16) cx (by decide +kernel) rfl) <|
  OkT.cons (ok_iushr cx (by decide +kernel)) <|
  OkT.cons (ok_iadd cx (by decide +kernel)) <|
  OkT.cons (ok_istore_n (kn := 0) rfl cx (by decide +kernel)) <|
  OkT.cons (ok_iload_n (kn := 0) rfl cx (by decide +kernel)) <|
  OkT.cons (ok_bipush (n := 63) cx (by decide +kernel) rfl) <|
  OkT.cons (ok_iand cx (by decide +kernel)) <|
  OkT.cons (ok_retI hr (by decide +kernel)) <|
  OkT.nil⟩
def T_J0_length_8abf5 (ex : Ex) : Tb := [(0, oAld 0 1), (1, oSVal), (4, oSLen), (5, oAld 0 1), (6, oCallT ex 201 0), (9, pS (fB (fun x y => x >>> (y &&& 31))) 1), (10, oRetI)]
set_option maxRecDepth 20000 in
theorem ta_J0_length_8abf5 : TabOk MIS T_J0_length_8abf5 mi_J0_length_8abf5 := ⟨by decide +kernel, fun l d ex hex p e R s m args below meth c cells slots ad D cI cZ A cx hR hA hr =>
  OkT.cons (ok_aload_n (kn := 0) rfl cx (by decide +kernel)) <|
  OkT.cons (ok_SVal w_1234 cx (by decide +kernel)) <|
  OkT.cons (ok_SLen cx (by decide +kernel)) <|
  OkT.cons (ok_aload_n (kn := 0) rfl cx (by decide +kernel)) <|
  OkT.cons (ok_callT hex rfl ca_RJ0_335 hR hA cx (by decide +kernel)) <|
  OkT.cons (ok_ishr cx (by decide +kernel)) <|
  OkT.cons (ok_retI hr (by decide +kernel)) <|
  OkT.nil⟩
def T_J0_charAt_5068e (ex : Ex) : Tb := [(0, oAld 0 1), (1, oCallT ex 202 0), (4, oIf_eq 16), (7, oAld 0 1), (8, oSVal), (11, oIld 1 1), (12, oCallS ex 204 2), (15, oRetN .char), (16, oAld 0 1), (17, oSVal), (20, oIld 1 1), (21, oBad), (24, oRetN .char)]
set_option maxRecDepth 20000 in
theorem ta_J0_charAt_5068e : TabOk MIS T_J0_charAt_5068e mi_J0_charAt_5068e := ⟨by decide +kernel, fun l d ex hex p e R s m args below meth c cells slots ad D cI cZ A cx hR hA hr =>
  OkT.cons (ok_aload_n (kn := 0) rfl cx (by decide +kernel)) <|
  OkT.cons (ok_callT hex rfl ca_RJ0_492 hR hA cx (by decide +kernel)) <|
  OkT.cons (ok_If_eq (off := 12) (by decide) cx (by decide +kernel)) <|
  OkT.cons (ok_aload_n (kn := 0) rfl cx (by decide +kernel)) <|
  OkT.cons (ok_SVal w_1234 cx (by decide +kernel)) <|
  OkT.cons (ok_iload_n (kn := 1) rfl cx (by decide +kernel)) <|
  OkT.cons (ok_callS hex rfl ca_RJ0_495 hR hA cx (by decide +kernel)) <|
  OkT.cons (ok_retN hr (by decide +kernel)) <|
  OkT.cons (ok_aload_n (kn := 0) rfl cx (by decide +kernel)) <|
  OkT.cons (ok_SVal w_1234 cx (by decide +kernel)) <|
  OkT.cons (ok_iload_n (kn := 1) rfl cx (by decide +kernel)) <|
  OkT.cons (ok_bad) <|
  OkT.cons (ok_retN hr (by decide +kernel)) <|
  OkT.nil⟩
def T_J0_coder_7d493 (ex : Ex) : Tb := [(0, oStZ), (3, oIf_eq 13), (6, oAld 0 1), (7, oSCod), (10, oGoto 14), (13, oFg [0] (pS (fPush (.int 1)) 1)), (14, oFg [0] (oRetN .byte))]
set_option maxRecDepth 20000 in
theorem ta_J0_coder_7d493 : TabOk MIS T_J0_coder_7d493 mi_J0_coder_7d493 := ⟨by decide +kernel, fun l d ex hex p e R s m args below meth c cells slots ad D cI cZ A cx hR hA hr =>
  OkT.cons (ok_StZ w_296 cx (by decide +kernel)) <|
  OkT.cons (ok_If_eq (off := 10) (by decide) cx (by decide +kernel)) <|
  OkT.cons (ok_aload_n (kn := 0) rfl cx (by decide +kernel)) <|
  OkT.cons (ok_SCod w_1235 cx (by decide +kernel)) <|
  OkT.cons (ok_goto (off := 4) (by decide) cx (by decide +kernel)) <|
  OkT.cons (ok_fg [0] (ok_iconst (n := 1) cx (by decide +kernel) rfl)) <|
  OkT.cons (ok_fg [0] (ok_retN hr (by decide +kernel))) <|
  OkT.nil⟩
def T_J0_isLatin1_aae02 (ex : Ex) : Tb := [(0, oStZ), (3, oIf_eq 17), (6, oAld 0 1), (7, oSCod), (10, oIf_ne 17), (13, pS (fPush (.int 1)) 1), (14, oGoto 18), (17, oFg [0] (pS (fPush (.int 0)) 1)), (18, oFg [0] (oRetZ))]
set_option maxRecDepth 20000 in
theorem ta_J0_isLatin1_aae02 : TabOk MIS T_J0_isLatin1_aae02 mi_J0_isLatin1_aae02 := ⟨by decide +kernel, fun l d ex hex p e R s m args below meth c cells slots ad D cI cZ A cx hR hA hr =>
  OkT.cons (ok_StZ w_296 cx (by decide +kernel)) <|
  OkT.cons (ok_If_eq (off := 14) (by decide) cx (by decide +kernel)) <|
  OkT.cons (ok_aload_n (kn := 0) rfl cx (by decide +kernel)) <|
  OkT.cons (ok_SCod w_1235 cx (by decide +kernel)) <|
  OkT.cons (ok_If_ne (off := 7) (by decide) cx (by decide +kernel)) <|
  OkT.cons (ok_iconst (n := 1) cx (by decide +kernel) rfl) <|
  OkT.cons (ok_goto (off := 4) (by decide) cx (by decide +kernel)) <|
  OkT.cons (ok_fg [0] (ok_iconst (n := 0) cx (by decide +kernel) rfl)) <|
  OkT.cons (ok_fg [0] (ok_retZ hr (by decide +kernel))) <|
  OkT.nil⟩
def T_J0_checkIndex_df160 (ex : Ex) : Tb := [(0, oIld 0 1), (1, oIld 1 1), (2, oStR), (5, oCallS ex 206 3), (8, pS fPop 1), (9, oRetV)]
set_option maxRecDepth 20000 in
theorem ta_J0_checkIndex_df160 : TabOk MIS T_J0_checkIndex_df160 mi_J0_checkIndex_df160 := ⟨by decide +kernel, fun l d ex hex p e R s m args below meth c cells slots ad D cI cZ A cx hR hA hr =>
  OkT.cons (ok_iload_n (kn := 0) rfl cx (by decide +kernel)) <|
  OkT.cons (ok_iload_n (kn := 1) rfl cx (by decide +kernel)) <|
  OkT.cons (ok_StR w_312 cx (by decide +kernel)) <|
  OkT.cons (ok_callS hex rfl ca_RJ0_1059 hR hA cx (by decide +kernel)) <|
  OkT.cons (ok_pop cx (by decide +kernel)) <|
  OkT.cons (ok_retV hr (by decide +kernel)) <|
  OkT.nil⟩
def T_J1_charAt_3b067 (ex : Ex) : Tb := [(0, oIld 1 1), (1, oAld 0 1), (2, oSLen), (3, oCallS ex 203 2), (6, oAld 0 1), (7, oIld 1 1), (8, oSByt), (9, pS (fPush (.int 255)) 3), (12, pS (fB (fun x y => x &&& y)) 1), (13, pS (fUn (fun x => (x.toUInt32 % 65536).toInt32)) 1), (14, oRetN .char)]
set_option maxRecDepth 20000 in
theorem ta_J1_charAt_3b067 : TabOk MIS T_J1_charAt_3b067 mi_J1_charAt_3b067 := ⟨by decide +kernel, fun l d ex hex p e R s m args below meth c cells slots ad D cI cZ A cx hR hA hr =>
  OkT.cons (ok_iload_n (kn := 1) rfl cx (by decide +kernel)) <|
  OkT.cons (ok_aload_n (kn := 0) rfl cx (by decide +kernel)) <|
  OkT.cons (ok_SLen cx (by decide +kernel)) <|
  OkT.cons (ok_callS hex rfl ca_RJ1_9 hR hA cx (by decide +kernel)) <|
  OkT.cons (ok_aload_n (kn := 0) rfl cx (by decide +kernel)) <|
  OkT.cons (ok_iload_n (kn := 1) rfl cx (by decide +kernel)) <|
  OkT.cons (ok_SByt cx (by decide +kernel)) <|
  OkT.cons (ok_sipush (n := 255) cx (by decide +kernel) rfl) <|
  OkT.cons (ok_iand cx (by decide +kernel)) <|
  OkT.cons (ok_i2c cx (by decide +kernel)) <|
  OkT.cons (ok_retN hr (by decide +kernel)) <|
  OkT.nil⟩
def T_J7_fill_53178 (ex : Ex) : Tb := [(0, pS (fPush (.int 0)) 1), (1, oIst 2 1), (2, oAld 0 1), (3, oAlen), (4, oIst 3 1), (5, oIld 2 1), (6, oIld 3 1), (7, oIc_ge 20), (10, oAld 0 1), (11, oIld 2 1), (12, oIld 1 1), (13, oIast), (14, oInc 2 1), (17, oGoto 5), (20, oFg [0, 1, 2, 3] (oRetV))]
set_option maxRecDepth 20000 in
theorem ta_J7_fill_53178 : TabOk MIS T_J7_fill_53178 mi_J7_fill_53178 := ⟨by decide +kernel, fun l d ex hex p e R s m args below meth c cells slots ad D cI cZ A cx hR hA hr =>
  OkT.cons (ok_iconst (n := 0) cx (by decide +kernel) rfl) <|
  OkT.cons (ok_istore_n (kn := 2) rfl cx (by decide +kernel)) <|
  OkT.cons (ok_aload_n (kn := 0) rfl cx (by decide +kernel)) <|
  OkT.cons (ok_alen cx (by decide +kernel)) <|
  OkT.cons (ok_istore_n (kn := 3) rfl cx (by decide +kernel)) <|
  OkT.cons (ok_iload_n (kn := 2) rfl cx (by decide +kernel)) <|
  OkT.cons (ok_iload_n (kn := 3) rfl cx (by decide +kernel)) <|
  OkT.cons (ok_Ic_ge (off := 13) (by decide) cx (by decide +kernel)) <|
  OkT.cons (ok_aload_n (kn := 0) rfl cx (by decide +kernel)) <|
  OkT.cons (ok_iload_n (kn := 2) rfl cx (by decide +kernel)) <|
  OkT.cons (ok_iload_n (kn := 1) rfl cx (by decide +kernel)) <|
  OkT.cons (ok_Iast cx (by decide +kernel)) <|
  OkT.cons (ok_iinc (n := 1) rfl cx (by decide +kernel)) <|
  OkT.cons (ok_goto (off := (-12)) (by decide) cx (by decide +kernel)) <|
  OkT.cons (ok_fg [0, 1, 2, 3] (ok_retV hr (by decide +kernel))) <|
  OkT.nil⟩
def T_J3_checkIndex_8e157 (ex : Ex) : Tb := [(0, oIld 0 1), (1, oIf_lt 9), (4, oIld 0 1), (5, oIld 1 1), (6, oIc_lt 16), (9, oAld 2 1), (10, oIld 0 1), (11, oIld 1 1), (12, oBad), (15, oBad), (16, oFg [1, 2] (oIld 0 1)), (17, oRetI)]
set_option maxRecDepth 20000 in
theorem ta_J3_checkIndex_8e157 : TabOk MIS T_J3_checkIndex_8e157 mi_J3_checkIndex_8e157 := ⟨by decide +kernel, fun l d ex hex p e R s m args below meth c cells slots ad D cI cZ A cx hR hA hr =>
  OkT.cons (ok_iload_n (kn := 0) rfl cx (by decide +kernel)) <|
  OkT.cons (ok_If_lt (off := 8) (by decide) cx (by decide +kernel)) <|
  OkT.cons (ok_iload_n (kn := 0) rfl cx (by decide +kernel)) <|
  OkT.cons (ok_iload_n (kn := 1) rfl cx (by decide +kernel)) <|
  OkT.cons (ok_Ic_lt (off := 10) (by decide) cx (by decide +kernel)) <|
  OkT.cons (ok_aload_n (kn := 2) rfl cx (by decide +kernel)) <|
  OkT.cons (ok_iload_n (kn := 0) rfl cx (by decide +kernel)) <|
  OkT.cons (ok_iload_n (kn := 1) rfl cx (by decide +kernel)) <|
  OkT.cons (ok_bad) <|
  OkT.cons (ok_bad) <|
  OkT.cons (ok_fg [1, 2] (ok_iload_n (kn := 0) rfl cx (by decide +kernel))) <|
  OkT.cons (ok_retI hr (by decide +kernel)) <|
  OkT.nil⟩

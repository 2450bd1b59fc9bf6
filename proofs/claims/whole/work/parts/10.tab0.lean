/-! the tables of the methods and that they are right (printed by a program) -/
def T_X0_isWon (ex : Ex) : Tb := [(0, oIld 5 2), (2, oIf_le 11), (5, oIld 5 2), (7, pS (fPush (.int 4)) 1), (8, oIc_le 31), (11, oFg [2, 3, 5, 6, 7, 8, 9] (oAld 0 1)), (12, oIld 1 1), (13, oCallV ex 75 1 3), (16, oIld 4 2), (18, pS (fB (fun x y => x >>> (y &&& 31))) 1), (19, pS (fPush (.int 1)) 1), (20, pS (fB (fun x y => x &&& y)) 1), (21, pS (fPush (.int 1)) 1), (22, oIc_ne 29), (25, pS (fPush (.int 1)) 1), (26, oGoto 30), (29, oFg [0, 1, 2, 3, 4, 5, 6, 7, 8, 9] (pS (fPush (.int 0)) 1)), (30, oFg [0, 1, 2, 3, 4, 5, 6, 7, 8, 9] (oRetZ)), (31, oFg [7, 8, 9] (pS (fPush (.int 1)) 1)), (32, oIld 6 2), (34, oIf_eq 41), (37, oIld 2 1), (38, oGoto 42), (41, oFg [7, 8, 9] (oIld 3 1)), (42, oFg [7, 8, 9] (pS (fB (fun x y => x <<< (y &&& 31))) 1)), (43, oIst 7 2), (45, pS (fPush (.int 0)) 1), (46, oIst 8 2), (48, oFg [9] (oIld 8 2)), (50, pS (fPush (.int 7)) 2), (52, oIc_gt 109), (55, oAld 0 1), (56, oIld 1 1), (57, oIld 7 2), (59, oIld 8 2), (61, oCallV ex 76 3 3), (64, oIst 9 2), (66, oIld 9 2), (68, oIf_lt 103), (71, oAld 0 1), (72, oIld 9 2), (74, oIld 2 1), (75, oIld 3 1), (76, oIld 4 2), (78, oIld 5 2), (80, pS (fPush (.int 1)) 1), (81, pS (fB (fun x y => x - y)) 1), (82, oIld 6 2), (84, oIf_ne 91), (87, pS (fPush (.int 1)) 1), (88, oGoto 92), (91, oFg [9] (pS (fPush (.int 0)) 1)), (92, oFg [9] (oCallS ex 0 7)), (95, oIld 6 2), (97, oIc_ne 103), (100, oIld 6 2), (102, oRetZ), (103, oFg [9] (oInc 8 1)), (106, oGoto 48), (109, oFg [0, 1, 2, 3, 4, 5, 7, 8, 9] (oIld 6 2)), (111, oIf_ne 118), (114, pS (fPush (.int 1)) 1), (115, oGoto 119), (118, oFg [0, 1, 2, 3, 4, 5, 6, 7, 8, 9] (pS (fPush (.int 0)) 1)), (119, oFg [0, 1, 2, 3, 4, 5, 6, 7, 8, 9] (oRetZ))]
set_option maxRecDepth 20000 in
theorem ta_X0_isWon : TabOk MIS T_X0_isWon mi_X0_isWon := ⟨by decide +kernel, fun l d ex hex p e R s m args below meth c cells slots ad D cI cZ A cx hR hA hr =>
  OkT.cons (ok_iload cx (by decide +kernel)) <|
  OkT.cons (ok_If_le (off := 9) (by decide) cx (by decide +kernel)) <|
  OkT.cons (ok_iload cx (by decide +kernel)) <|
  OkT.cons (ok_iconst (n := 4) cx (by decide +kernel) rfl) <|
  OkT.cons (ok_Ic_le (off := 23) (by decide) cx (by decide +kernel)) <|
  OkT.cons (ok_fg [2, 3, 5, 6, 7, 8, 9] (ok_aload_n (kn := 0) rfl cx (by decide +kernel))) <|
  OkT.cons (ok_iload_n (kn := 1) rfl cx (by decide +kernel)) <|
  OkT.cons (ok_callV hex rfl rfl (by decide) ca_RX0_9 hR hA cx (by decide +kernel)) <|
  OkT.cons (ok_iload cx (by decide +kernel)) <|
  OkT.cons (ok_ishr cx (by decide +kernel)) <|
  OkT.cons (ok_iconst (n := 1) cx (by decide +kernel) rfl) <|
  OkT.cons (ok_iand cx (by decide +kernel)) <|
  OkT.cons (ok_iconst (n := 1) cx (by decide +kernel) rfl) <|
  OkT.cons (ok_Ic_ne (off := 7) (by decide) cx (by decide +kernel)) <|
  OkT.cons (ok_iconst (n := 1) cx (by decide +kernel) rfl) <|
  OkT.cons (ok_goto (off := 4) (by decide) cx (by decide +kernel)) <|
  OkT.cons (ok_fg [0, 1, 2, 3, 4, 5, 6, 7, 8, 9] (ok_iconst (n := 0) cx (by decide +kernel) rfl)) <|
  OkT.cons (ok_fg [0, 1, 2, 3, 4, 5, 6, 7, 8, 9] (ok_retZ hr (by decide +kernel))) <|
  OkT.cons (ok_fg [7, 8, 9] (ok_iconst (n := 1) cx (by decide +kernel) rfl)) <|
  OkT.cons (ok_iload cx (by decide +kernel)) <|
  OkT.cons (ok_If_eq (off := 7) (by decide) cx (by decide +kernel)) <|
  OkT.cons (ok_iload_n (kn := 2) rfl cx (by decide +kernel)) <|
  OkT.cons (ok_goto (off := 4) (by decide) cx (by decide +kernel)) <|
  OkT.cons (ok_fg [7, 8, 9] (ok_iload_n (kn := 3) rfl cx (by decide +kernel))) <|
  OkT.cons (ok_fg [7, 8, 9] (ok_ishl cx (by decide +kernel))) <|
  OkT.cons (ok_istore cx (by decide +kernel)) <|
  OkT.cons (ok_iconst (n := 0) cx (by decide +kernel) rfl) <|
  OkT.cons (ok_istore cx (by decide +kernel)) <|
  OkT.cons (ok_fg [9] (ok_iload cx (by decide +kernel))) <|
  OkT.cons (ok_bipush (n := 7) cx (by decide +kernel) rfl) <|
  OkT.cons (ok_Ic_gt (off := 57) (by decide) cx (by decide +kernel)) <|
  OkT.cons (ok_aload_n (kn := 0) rfl cx (by decide +kernel)) <|
  OkT.cons (ok_iload_n (kn := 1) rfl cx (by decide +kernel)) <|
  OkT.cons (ok_iload cx (by decide +kernel)) <|
  OkT.cons (ok_iload cx (by decide +kernel)) <|
  OkT.cons (ok_callV hex rfl rfl (by decide) ca_RX0_15 hR hA cx (by decide +kernel)) <|
  OkT.cons (ok_istore cx (by decide +kernel)) <|
  OkT.cons (ok_iload cx (by decide +kernel)) <|
  OkT.cons (ok_If_lt (off := 35) (by decide) cx (by decide +kernel)) <|
  OkT.cons (ok_aload_n (kn := 0) rfl cx (by decide +kernel)) <|
  OkT.cons (ok_iload cx (by decide +kernel)) <|
  OkT.cons (ok_iload_n (kn := 2) rfl cx (by decide +kernel)) <|
  OkT.cons (ok_iload_n (kn := 3) rfl cx (by decide +kernel)) <|
  OkT.cons (ok_iload cx (by decide +kernel)) <|
  OkT.cons (ok_iload cx (by decide +kernel)) <|
  OkT.cons (ok_iconst (n := 1) cx (by decide +kernel) rfl) <|
  OkT.cons (ok_isub cx (by decide +kernel)) <|
  OkT.cons (ok_iload cx (by decide +kernel)) <|
  OkT.cons (ok_If_ne (off := 7) (by decide) cx (by decide +kernel)) <|
  OkT.cons (ok_iconst (n := 1) cx (by decide +kernel) rfl) <|
  OkT.cons (ok_goto (off := 4) (by decide) cx (by decide +kernel)) <|
  OkT.cons (ok_fg [9] (ok_iconst (n := 0) cx (by decide +kernel) rfl)) <|
  OkT.cons (ok_fg [9] (ok_callS hex rfl ca_RX0_19 hR hA cx (by decide +kernel))) <|
  OkT.cons (ok_iload cx (by decide +kernel)) <|
  OkT.cons (ok_Ic_ne (off := 6) (by decide) cx (by decide +kernel)) <|
  OkT.cons (ok_iload cx (by decide +kernel)) <|
  OkT.cons (ok_retZ hr (by decide +kernel)) <|
  OkT.cons (ok_fg [9] (ok_iinc (n := 1) rfl cx (by decide +kernel))) <|
  OkT.cons (ok_goto (off := (-58)) (by decide) cx (by decide +kernel)) <|
  OkT.cons (ok_fg [0, 1, 2, 3, 4, 5, 7, 8, 9] (ok_iload cx (by decide +kernel))) <|
  OkT.cons (ok_If_ne (off := 7) (by decide) cx (by decide +kernel)) <|
  OkT.cons (ok_iconst (n := 1) cx (by decide +kernel) rfl) <|
  OkT.cons (ok_goto (off := 4) (by decide) cx (by decide +kernel)) <|
  OkT.cons (ok_fg [0, 1, 2, 3, 4, 5, 6, 7, 8, 9] (ok_iconst (n := 0) cx (by decide +kernel) rfl)) <|
  OkT.cons (ok_fg [0, 1, 2, 3, 4, 5, 6, 7, 8, 9] (ok_retZ hr (by decide +kernel))) <|
  OkT.nil⟩
def T_X0_firstWord (ex : Ex) : Tb := [(0, oIld 5 2), (2, oIf_gt 8), (5, pS (fPush (.int (-9))) 2), (7, oRetI), (8, oFg [6, 7] (pS (fPush (.int 0)) 1)), (9, oIst 6 2), (11, oFg [7] (oIld 6 2)), (13, pS (fPush (.int 7)) 2), (15, oIc_gt 62), (18, oAld 0 1), (19, oIld 1 1), (20, pS (fPush (.int 1)) 1), (21, oIld 2 1), (22, pS (fB (fun x y => x <<< (y &&& 31))) 1), (23, oIld 6 2), (25, oCallV ex 76 3 3), (28, oIst 7 2), (30, oIld 7 2), (32, oIf_lt 56), (35, oAld 0 1), (36, oIld 7 2), (38, oIld 2 1), (39, oIld 3 1), (40, oIld 4 2), (42, oIld 5 2), (44, pS (fPush (.int 1)) 1), (45, pS (fB (fun x y => x - y)) 1), (46, pS (fPush (.int 0)) 1), (47, oCallS ex 0 7), (50, oIf_eq 56), (53, oIld 6 2), (55, oRetI), (56, oFg [7] (oInc 6 1)), (59, oGoto 11), (62, oFg [0, 1, 2, 3, 4, 5, 6, 7] (pS (fPush (.int (-9))) 2)), (64, oRetI)]
set_option maxRecDepth 20000 in
theorem ta_X0_firstWord : TabOk MIS T_X0_firstWord mi_X0_firstWord := ⟨by decide +kernel, fun l d ex hex p e R s m args below meth c cells slots ad D cI cZ A cx hR hA hr =>
  OkT.cons (ok_iload cx (by decide +kernel)) <|
  OkT.cons (ok_If_gt (off := 6) (by decide) cx (by decide +kernel)) <|
  OkT.cons (ok_bipush (n := (-9)) cx (by decide +kernel) rfl) <|
  OkT.cons (ok_retI hr (by decide +kernel)) <|
  OkT.cons (ok_fg [6, 7] (ok_iconst (n := 0) cx (by decide +kernel) rfl)) <|
  OkT.cons (ok_istore cx (by decide +kernel)) <|
  OkT.cons (ok_fg [7] (ok_iload cx (by decide +kernel))) <|
  OkT.cons (ok_bipush (n := 7) cx (by decide +kernel) rfl) <|
  OkT.cons (ok_Ic_gt (off := 47) (by decide) cx (by decide +kernel)) <|
  OkT.cons (ok_aload_n (kn := 0) rfl cx (by decide +kernel)) <|
  OkT.cons (ok_iload_n (kn := 1) rfl cx (by decide +kernel)) <|
  OkT.cons (ok_iconst (n := 1) cx (by decide +kernel) rfl) <|
  OkT.cons (ok_iload_n (kn := 2) rfl cx (by decide +kernel)) <|
  OkT.cons (ok_ishl cx (by decide +kernel)) <|
  OkT.cons (ok_iload cx (by decide +kernel)) <|
  OkT.cons (ok_callV hex rfl rfl (by decide) ca_RX0_15 hR hA cx (by decide +kernel)) <|
  OkT.cons (ok_istore cx (by decide +kernel)) <|
  OkT.cons (ok_iload cx (by decide +kernel)) <|
  OkT.cons (ok_If_lt (off := 24) (by decide) cx (by decide +kernel)) <|
  OkT.cons (ok_aload_n (kn := 0) rfl cx (by decide +kernel)) <|
  OkT.cons (ok_iload cx (by decide +kernel)) <|
  OkT.cons (ok_iload_n (kn := 2) rfl cx (by decide +kernel)) <|
  OkT.cons (ok_iload_n (kn := 3) rfl cx (by decide +kernel)) <|
  OkT.cons (ok_iload cx (by decide +kernel)) <|
  OkT.cons (ok_iload cx (by decide +kernel)) <|
  OkT.cons (ok_iconst (n := 1) cx (by decide +kernel) rfl) <|
  OkT.cons (ok_isub cx (by decide +kernel)) <|
  OkT.cons (ok_iconst (n := 0) cx (by decide +kernel) rfl) <|
  OkT.cons (ok_callS hex rfl ca_RX0_19 hR hA cx (by decide +kernel)) <|
  OkT.cons (ok_If_eq (off := 6) (by decide) cx (by decide +kernel)) <|
  OkT.cons (ok_iload cx (by decide +kernel)) <|
  OkT.cons (ok_retI hr (by decide +kernel)) <|
  OkT.cons (ok_fg [7] (ok_iinc (n := 1) rfl cx (by decide +kernel))) <|
  OkT.cons (ok_goto (off := (-48)) (by decide) cx (by decide +kernel)) <|
  OkT.cons (ok_fg [0, 1, 2, 3, 4, 5, 6, 7] (ok_bipush (n := (-9)) cx (by decide +kernel) rfl)) <|
  OkT.cons (ok_retI hr (by decide +kernel)) <|
  OkT.nil⟩
def T_X1_seen (ex : Ex) : Tb := [(0, oAld 0 1), (1, oGetI 0 2), (4, oRetI)]
set_option maxRecDepth 20000 in
theorem ta_X1_seen : TabOk MIS T_X1_seen mi_X1_seen := ⟨by decide +kernel, fun l d ex hex p e R s m args below meth c cells slots ad D cI cZ A cx hR hA hr =>
  OkT.cons (ok_aload_n (kn := 0) rfl cx (by decide +kernel)) <|
  OkT.cons (ok_getI fg_RX1_21 (by decide) rfl cx (by decide +kernel)) <|
  OkT.cons (ok_retI hr (by decide +kernel)) <|
  OkT.nil⟩
def T_X1_seeNothing (ex : Ex) : Tb := [(0, oAld 0 1), (1, pS (fPush (.int 0)) 1), (2, oPutI 0 2), (5, oRetV)]
set_option maxRecDepth 20000 in
theorem ta_X1_seeNothing : TabOk MIS T_X1_seeNothing mi_X1_seeNothing := ⟨by decide +kernel, fun l d ex hex p e R s m args below meth c cells slots ad D cI cZ A cx hR hA hr =>
  OkT.cons (ok_aload_n (kn := 0) rfl cx (by decide +kernel)) <|
  OkT.cons (ok_iconst (n := 0) cx (by decide +kernel) rfl) <|
  OkT.cons (ok_putI fp_RX1_21 (by decide) rfl cx (by decide +kernel)) <|
  OkT.cons (ok_retV hr (by decide +kernel)) <|
  OkT.nil⟩
def T_X1_see (ex : Ex) : Tb := [(0, oAld 0 1), (1, oGetI 0 2), (4, pS (fPush (.int 6)) 2), (6, oIc_lt 11), (9, pS (fPush (.int 0)) 1), (10, oRetZ), (11, oAld 0 1), (12, oGetA 0 1), (15, oAld 0 1), (16, oGetI 0 2), (19, oIld 1 1), (20, oCallS ex 134 3), (23, oAld 0 1), (24, oGetA 0 2), (27, oAld 0 1), (28, oGetI 0 2), (31, oIld 2 1), (32, oCallS ex 134 3), (35, oAld 0 1), (36, pS fDup 1), (37, oGetI 0 2), (40, pS (fPush (.int 1)) 1), (41, pS (fB (fun x y => x + y)) 1), (42, oPutI 0 2), (45, pS (fPush (.int 1)) 1), (46, oRetZ)]
set_option maxRecDepth 20000 in
theorem ta_X1_see : TabOk MIS T_X1_see mi_X1_see := ⟨by decide +kernel, fun l d ex hex p e R s m args below meth c cells slots ad D cI cZ A cx hR hA hr =>
  OkT.cons (ok_aload_n (kn := 0) rfl cx (by decide +kernel)) <|
  OkT.cons (ok_getI fg_RX1_21 (by decide) rfl cx (by decide +kernel)) <|
  OkT.cons (ok_bipush (n := 6) cx (by decide +kernel) rfl) <|
  OkT.cons (ok_Ic_lt (off := 5) (by decide) cx (by decide +kernel)) <|
  OkT.cons (ok_iconst (n := 0) cx (by decide +kernel) rfl) <|
  OkT.cons (ok_retZ hr (by decide +kernel)) <|
  OkT.cons (ok_aload_n (kn := 0) rfl cx (by decide +kernel)) <|
  OkT.cons (ok_getA (k := 0) fg_RX1_11 (by decide) rfl cx (by decide +kernel)) <|
  OkT.cons (ok_aload_n (kn := 0) rfl cx (by decide +kernel)) <|
  OkT.cons (ok_getI fg_RX1_21 (by decide) rfl cx (by decide +kernel)) <|
  OkT.cons (ok_iload_n (kn := 1) rfl cx (by decide +kernel)) <|
  OkT.cons (ok_callN hex rfl ca_RX1_25 hR hA cx (by decide +kernel)) <|
  OkT.cons (ok_aload_n (kn := 0) rfl cx (by decide +kernel)) <|
  OkT.cons (ok_getA (k := 1) fg_RX1_15 (by decide) rfl cx (by decide +kernel)) <|
  OkT.cons (ok_aload_n (kn := 0) rfl cx (by decide +kernel)) <|
  OkT.cons (ok_getI fg_RX1_21 (by decide) rfl cx (by decide +kernel)) <|
  OkT.cons (ok_iload_n (kn := 2) rfl cx (by decide +kernel)) <|
  OkT.cons (ok_callN hex rfl ca_RX1_25 hR hA cx (by decide +kernel)) <|
  OkT.cons (ok_aload_n (kn := 0) rfl cx (by decide +kernel)) <|
  OkT.cons (ok_dup cx (by decide +kernel)) <|
  OkT.cons (ok_getI fg_RX1_21 (by decide) rfl cx (by decide +kernel)) <|
  OkT.cons (ok_iconst (n := 1) cx (by decide +kernel) rfl) <|
  OkT.cons (ok_iadd cx (by decide +kernel)) <|
  OkT.cons (ok_putI fp_RX1_21 (by decide) rfl cx (by decide +kernel)) <|
  OkT.cons (ok_iconst (n := 1) cx (by decide +kernel) rfl) <|
  OkT.cons (ok_retZ hr (by decide +kernel)) <|
  OkT.nil⟩
def T_X1_possible (ex : Ex) : Tb := [(0, pS (fPush (.int 0)) 1), (1, oIst 2 1), (2, pS (fPush (.int 0)) 1), (3, oIst 3 1), (4, oIld 3 1), (5, pS (fPush (.int 156)) 3), (8, oIc_ge 34), (11, oIld 2 1), (12, oAld 0 1), (13, oAld 1 1), (14, oIld 3 1), (15, oCallV ex 9 2 0), (18, oIf_eq 25), (21, pS (fPush (.int 1)) 1), (22, oGoto 26), (25, oFg [2] (pS (fPush (.int 0)) 1)), (26, oFg [2] (pS (fB (fun x y => x + y)) 1)), (27, oIst 2 1), (28, oInc 3 1), (31, oGoto 4), (34, oFg [0, 1, 3] (oIld 2 1)), (35, oRetI)]
set_option maxRecDepth 20000 in
theorem ta_X1_possible : TabOk MIS T_X1_possible mi_X1_possible := ⟨by decide +kernel, fun l d ex hex p e R s m args below meth c cells slots ad D cI cZ A cx hR hA hr =>
  OkT.cons (ok_iconst (n := 0) cx (by decide +kernel) rfl) <|
  OkT.cons (ok_istore_n (kn := 2) rfl cx (by decide +kernel)) <|
  OkT.cons (ok_iconst (n := 0) cx (by decide +kernel) rfl) <|
  OkT.cons (ok_istore_n (kn := 3) rfl cx (by decide +kernel)) <|
  OkT.cons (ok_iload_n (kn := 3) rfl cx (by decide +kernel)) <|
  OkT.cons (ok_sipush (n := 156) cx (by decide +kernel) rfl) <|
  OkT.cons (ok_Ic_ge (off := 26) (by decide) cx (by decide +kernel)) <|
  OkT.cons (ok_iload_n (kn := 2) rfl cx (by decide +kernel)) <|
  OkT.cons (ok_aload_n (kn := 0) rfl cx (by decide +kernel)) <|
  OkT.cons (ok_aload_n (kn := 1) rfl cx (by decide +kernel)) <|
  OkT.cons (ok_iload_n (kn := 3) rfl cx (by decide +kernel)) <|
  OkT.cons (ok_callV hex rfl rfl (by decide) ca_RX1_29 hR hA cx (by decide +kernel)) <|
  OkT.cons (ok_If_eq (off := 7) (by decide) cx (by decide +kernel)) <|
  OkT.cons (ok_iconst (n := 1) cx (by decide +kernel) rfl) <|
  OkT.cons (ok_goto (off := 4) (by decide) cx (by decide +kernel)) <|
  OkT.cons (ok_fg [2] (ok_iconst (n := 0) cx (by decide +kernel) rfl)) <|
  OkT.cons (ok_fg [2] (ok_iadd cx (by decide +kernel))) <|
  OkT.cons (ok_istore_n (kn := 2) rfl cx (by decide +kernel)) <|
  OkT.cons (ok_iinc (n := 1) rfl cx (by decide +kernel)) <|
  OkT.cons (ok_goto (off := (-27)) (by decide) cx (by decide +kernel)) <|
  OkT.cons (ok_fg [0, 1, 3] (ok_iload_n (kn := 2) rfl cx (by decide +kernel))) <|
  OkT.cons (ok_retI hr (by decide +kernel)) <|
  OkT.nil⟩
def T_X1_spellAt (ex : Ex) : Tb := [(0, pS (fPush (.int (-9))) 2), (2, oIst 3 1), (3, pS (fPush (.int 0)) 1), (4, oIst 4 2), (6, oFg [5] (oIld 4 2)), (8, pS (fPush (.int 156)) 3), (11, oIc_ge 56), (14, oAld 0 1), (15, oAld 1 1), (16, oIld 4 2), (18, oCallV ex 9 2 0), (21, oIf_eq 50), (24, oIld 4 2), (26, oIld 2 1), (27, oCallS ex 43 2), (30, oIst 5 2), (32, oIld 3 1), (33, pS (fPush (.int (-9))) 2), (35, oIc_eq 47), (38, oIld 3 1), (39, oIld 5 2), (41, oIc_eq 47), (44, pS (fPush (.int (-5))) 2), (46, oRetI), (47, oFg [3] (oIld 5 2)), (49, oIst 3 1), (50, oFg [5] (oInc 4 1)), (53, oGoto 6), (56, oFg [0, 1, 2, 4, 5] (oIld 3 1)), (57, oRetI)]
set_option maxRecDepth 20000 in
theorem ta_X1_spellAt : TabOk MIS T_X1_spellAt mi_X1_spellAt := ⟨by decide +kernel, fun l d ex hex p e R s m args below meth c cells slots ad D cI cZ A cx hR hA hr =>
  OkT.cons (ok_bipush (n := (-9)) cx (by decide +kernel) rfl) <|
  OkT.cons (ok_istore_n (kn := 3) rfl cx (by decide +kernel)) <|
  OkT.cons (ok_iconst (n := 0) cx (by decide +kernel) rfl) <|
  OkT.cons (ok_istore cx (by decide +kernel)) <|
  OkT.cons (ok_fg [5] (ok_iload cx (by decide +kernel))) <|
  OkT.cons (ok_sipush (n := 156) cx (by decide +kernel) rfl) <|
  OkT.cons (ok_Ic_ge (off := 45) (by decide) cx (by decide +kernel)) <|
  OkT.cons (ok_aload_n (kn := 0) rfl cx (by decide +kernel)) <|
  OkT.cons (ok_aload_n (kn := 1) rfl cx (by decide +kernel)) <|
  OkT.cons (ok_iload cx (by decide +kernel)) <|
  OkT.cons (ok_callV hex rfl rfl (by decide) ca_RX1_29 hR hA cx (by decide +kernel)) <|
  OkT.cons (ok_If_eq (off := 29) (by decide) cx (by decide +kernel)) <|
  OkT.cons (ok_iload cx (by decide +kernel)) <|
  OkT.cons (ok_iload_n (kn := 2) rfl cx (by decide +kernel)) <|
  OkT.cons (ok_callS hex rfl ca_RX1_33 hR hA cx (by decide +kernel)) <|
  OkT.cons (ok_istore cx (by decide +kernel)) <|
  OkT.cons (ok_iload_n (kn := 3) rfl cx (by decide +kernel)) <|
  OkT.cons (ok_bipush (n := (-9)) cx (by decide +kernel) rfl) <|
  OkT.cons (ok_Ic_eq (off := 12) (by decide) cx (by decide +kernel)) <|
  OkT.cons (ok_iload_n (kn := 3) rfl cx (by decide +kernel)) <|
  OkT.cons (ok_iload cx (by decide +kernel)) <|
  OkT.cons (ok_Ic_eq (off := 6) (by decide) cx (by decide +kernel)) <|
  OkT.cons (ok_bipush (n := (-5)) cx (by decide +kernel) rfl) <|
  OkT.cons (ok_retI hr (by decide +kernel)) <|
  OkT.cons (ok_fg [3] (ok_iload cx (by decide +kernel))) <|
  OkT.cons (ok_istore_n (kn := 3) rfl cx (by decide +kernel)) <|
  OkT.cons (ok_fg [5] (ok_iinc (n := 1) rfl cx (by decide +kernel))) <|
  OkT.cons (ok_goto (off := (-47)) (by decide) cx (by decide +kernel)) <|
  OkT.cons (ok_fg [0, 1, 2, 4, 5] (ok_iload_n (kn := 3) rfl cx (by decide +kernel))) <|
  OkT.cons (ok_retI hr (by decide +kernel)) <|
  OkT.nil⟩
def T_X1_bestToLift (ex : Ex) : Tb := [(0, pS (fPush (.int (-9))) 2), (2, oIst 2 1), (3, pS (fPush (.int 157)) 3), (6, oIst 3 1), (7, pS (fPush (.int 0)) 1), (8, oIst 4 2), (10, oFg [5] (oIld 4 2)), (12, pS (fPush (.int 3)) 1), (13, oIc_gt 48), (16, oAld 0 1), (17, oAld 1 1), (18, oIld 4 2), (20, oCallV ex 8 2 0), (23, oIst 5 2), (25, oIld 5 2), (27, oIf_le 42), (30, oIld 5 2), (32, oIld 3 1), (33, oIc_ge 42), (36, oIld 5 2), (38, oIst 3 1), (39, oIld 4 2), (41, oIst 2 1), (42, oFg [5] (oInc 4 1)), (45, oGoto 10), (48, oFg [0, 1, 3, 4, 5] (oIld 2 1)), (49, oRetI)]
set_option maxRecDepth 20000 in
theorem ta_X1_bestToLift : TabOk MIS T_X1_bestToLift mi_X1_bestToLift := ⟨by decide +kernel, fun l d ex hex p e R s m args below meth c cells slots ad D cI cZ A cx hR hA hr =>
  OkT.cons (ok_bipush (n := (-9)) cx (by decide +kernel) rfl) <|
  OkT.cons (ok_istore_n (kn := 2) rfl cx (by decide +kernel)) <|
  OkT.cons (ok_sipush (n := 157) cx (by decide +kernel) rfl) <|
  OkT.cons (ok_istore_n (kn := 3) rfl cx (by decide +kernel)) <|
  OkT.cons (ok_iconst (n := 0) cx (by decide +kernel) rfl) <|
  OkT.cons (ok_istore cx (by decide +kernel)) <|
  OkT.cons (ok_fg [5] (ok_iload cx (by decide +kernel))) <|
  OkT.cons (ok_iconst (n := 3) cx (by decide +kernel) rfl) <|
  OkT.cons (ok_Ic_gt (off := 35) (by decide) cx (by decide +kernel)) <|
  OkT.cons (ok_aload_n (kn := 0) rfl cx (by decide +kernel)) <|
  OkT.cons (ok_aload_n (kn := 1) rfl cx (by decide +kernel)) <|
  OkT.cons (ok_iload cx (by decide +kernel)) <|
  OkT.cons (ok_callV hex rfl rfl (by decide) ca_RX1_39 hR hA cx (by decide +kernel)) <|
  OkT.cons (ok_istore cx (by decide +kernel)) <|
  OkT.cons (ok_iload cx (by decide +kernel)) <|
  OkT.cons (ok_If_le (off := 15) (by decide) cx (by decide +kernel)) <|
  OkT.cons (ok_iload cx (by decide +kernel)) <|
  OkT.cons (ok_iload_n (kn := 3) rfl cx (by decide +kernel)) <|
  OkT.cons (ok_Ic_ge (off := 9) (by decide) cx (by decide +kernel)) <|
  OkT.cons (ok_iload cx (by decide +kernel)) <|
  OkT.cons (ok_istore_n (kn := 3) rfl cx (by decide +kernel)) <|
  OkT.cons (ok_iload cx (by decide +kernel)) <|
  OkT.cons (ok_istore_n (kn := 2) rfl cx (by decide +kernel)) <|
  OkT.cons (ok_fg [5] (ok_iinc (n := 1) rfl cx (by decide +kernel))) <|
  OkT.cons (ok_goto (off := (-35)) (by decide) cx (by decide +kernel)) <|
  OkT.cons (ok_fg [0, 1, 3, 4, 5] (ok_iload_n (kn := 2) rfl cx (by decide +kernel))) <|
  OkT.cons (ok_retI hr (by decide +kernel)) <|
  OkT.nil⟩
def T_X1_mostLeft (ex : Ex) : Tb := [(0, oAld 0 1), (1, oGetA 0 3), (4, pS (fPush (.int 0)) 1), (5, oCallS ex 205 2), (8, pS (fPush (.int 0)) 1), (9, oIst 3 1), (10, pS (fPush (.int 0)) 1), (11, oIst 4 2), (13, oFg [5] (oIld 4 2)), (15, pS (fPush (.int 156)) 3), (18, oIc_ge 80), (21, oAld 0 1), (22, oAld 1 1), (23, oIld 4 2), (25, oCallV ex 9 2 0), (28, oIf_eq 74), (31, oAld 1 1), (32, oIld 4 2), (34, oIld 2 1), (35, oCallS ex 10 3), (38, oIst 5 2), (40, oAld 0 1), (41, oGetA 0 3), (44, oIld 5 2), (46, oAld 0 1), (47, oGetA 0 3), (50, oIld 5 2), (52, oCallS ex 133 2), (55, pS (fPush (.int 1)) 1), (56, pS (fB (fun x y => x + y)) 1), (57, oCallS ex 134 3), (60, oIld 3 1), (61, oAld 0 1), (62, oGetA 0 3), (65, oIld 5 2), (67, oCallS ex 133 2), (70, pS fMax 3), (73, oIst 3 1), (74, oFg [5] (oInc 4 1)), (77, oGoto 13), (80, oFg [0, 1, 2, 4, 5] (oIld 3 1)), (81, oRetI)]
set_option maxRecDepth 20000 in
theorem ta_X1_mostLeft : TabOk MIS T_X1_mostLeft mi_X1_mostLeft := ⟨by decide +kernel, fun l d ex hex p e R s m args below meth c cells slots ad D cI cZ A cx hR hA hr =>
  OkT.cons (ok_aload_n (kn := 0) rfl cx (by decide +kernel)) <|
  OkT.cons (ok_getA (k := 3) fg_RX1_18 (by decide) rfl cx (by decide +kernel)) <|
  OkT.cons (ok_iconst (n := 0) cx (by decide +kernel) rfl) <|
  OkT.cons (ok_callS hex rfl ca_RX1_43 hR hA cx (by decide +kernel)) <|
  OkT.cons (ok_iconst (n := 0) cx (by decide +kernel) rfl) <|
  OkT.cons (ok_istore_n (kn := 3) rfl cx (by decide +kernel)) <|
  OkT.cons (ok_iconst (n := 0) cx (by decide +kernel) rfl) <|
  OkT.cons (ok_istore cx (by decide +kernel)) <|
  OkT.cons (ok_fg [5] (ok_iload cx (by decide +kernel))) <|
  OkT.cons (ok_sipush (n := 156) cx (by decide +kernel) rfl) <|
  OkT.cons (ok_Ic_ge (off := 62) (by decide) cx (by decide +kernel)) <|
  OkT.cons (ok_aload_n (kn := 0) rfl cx (by decide +kernel)) <|
  OkT.cons (ok_aload_n (kn := 1) rfl cx (by decide +kernel)) <|
  OkT.cons (ok_iload cx (by decide +kernel)) <|
  OkT.cons (ok_callV hex rfl rfl (by decide) ca_RX1_29 hR hA cx (by decide +kernel)) <|
  OkT.cons (ok_If_eq (off := 46) (by decide) cx (by decide +kernel)) <|
  OkT.cons (ok_aload_n (kn := 1) rfl cx (by decide +kernel)) <|
  OkT.cons (ok_iload cx (by decide +kernel)) <|
  OkT.cons (ok_iload_n (kn := 2) rfl cx (by decide +kernel)) <|
  OkT.cons (ok_callS hex rfl ca_RX1_49 hR hA cx (by decide +kernel)) <|
  OkT.cons (ok_istore cx (by decide +kernel)) <|
  OkT.cons (ok_aload_n (kn := 0) rfl cx (by decide +kernel)) <|
  OkT.cons (ok_getA (k := 3) fg_RX1_18 (by decide) rfl cx (by decide +kernel)) <|
  OkT.cons (ok_iload cx (by decide +kernel)) <|
  OkT.cons (ok_aload_n (kn := 0) rfl cx (by decide +kernel)) <|
  OkT.cons (ok_getA (k := 3) fg_RX1_18 (by decide) rfl cx (by decide +kernel)) <|
  OkT.cons (ok_iload cx (by decide +kernel)) <|
  OkT.cons (ok_callN hex rfl ca_RX1_53 hR hA cx (by decide +kernel)) <|
  OkT.cons (ok_iconst (n := 1) cx (by decide +kernel) rfl) <|
  OkT.cons (ok_iadd cx (by decide +kernel)) <|
  OkT.cons (ok_callN hex rfl ca_RX1_25 hR hA cx (by decide +kernel)) <|
  OkT.cons (ok_iload_n (kn := 3) rfl cx (by decide +kernel)) <|
  OkT.cons (ok_aload_n (kn := 0) rfl cx (by decide +kernel)) <|
  OkT.cons (ok_getA (k := 3) fg_RX1_18 (by decide) rfl cx (by decide +kernel)) <|
  OkT.cons (ok_iload cx (by decide +kernel)) <|
  OkT.cons (ok_callN hex rfl ca_RX1_53 hR hA cx (by decide +kernel)) <|
  OkT.cons (ok_max w_755 w_756 w_10 (w_757) cx (by decide +kernel)) <|
  OkT.cons (ok_istore_n (kn := 3) rfl cx (by decide +kernel)) <|
  OkT.cons (ok_fg [5] (ok_iinc (n := 1) rfl cx (by decide +kernel))) <|
  OkT.cons (ok_goto (off := (-64)) (by decide) cx (by decide +kernel)) <|
  OkT.cons (ok_fg [0, 1, 2, 4, 5] (ok_iload_n (kn := 3) rfl cx (by decide +kernel))) <|
  OkT.cons (ok_retI hr (by decide +kernel)) <|
  OkT.nil⟩
def T_X1_canBe (ex : Ex) : Tb := [(0, oAld 1 1), (1, oIld 2 1), (2, oCallV ex 74 1 3), (5, oIf_ne 10), (8, pS (fPush (.int 0)) 1), (9, oRetZ), (10, oFg [3] (pS (fPush (.int 0)) 1)), (11, oIst 3 1), (12, oIld 3 1), (13, oAld 0 1), (14, oGetI 0 2), (17, oIc_ge 52), (20, oAld 1 1), (21, oIld 2 1), (22, oAld 0 1), (23, oGetA 0 1), (26, oIld 3 1), (27, oCallS ex 133 2), (30, oCallS ex 10 3), (33, oAld 0 1), (34, oGetA 0 2), (37, oIld 3 1), (38, oCallS ex 133 2), (41, oIc_eq 46), (44, pS (fPush (.int 0)) 1), (45, oRetZ), (46, oInc 3 1), (49, oGoto 12), (52, oFg [0, 1, 2, 3] (pS (fPush (.int 1)) 1)), (53, oRetZ)]
set_option maxRecDepth 20000 in
theorem ta_X1_canBe : TabOk MIS T_X1_canBe mi_X1_canBe := ⟨by decide +kernel, fun l d ex hex p e R s m args below meth c cells slots ad D cI cZ A cx hR hA hr =>
  OkT.cons (ok_aload_n (kn := 1) rfl cx (by decide +kernel)) <|
  OkT.cons (ok_iload_n (kn := 2) rfl cx (by decide +kernel)) <|
  OkT.cons (ok_callV hex rfl rfl (by decide) ca_RX1_62 hR hA cx (by decide +kernel)) <|
  OkT.cons (ok_If_ne (off := 5) (by decide) cx (by decide +kernel)) <|
  OkT.cons (ok_iconst (n := 0) cx (by decide +kernel) rfl) <|
  OkT.cons (ok_retZ hr (by decide +kernel)) <|
  OkT.cons (ok_fg [3] (ok_iconst (n := 0) cx (by decide +kernel) rfl)) <|
  OkT.cons (ok_istore_n (kn := 3) rfl cx (by decide +kernel)) <|
  OkT.cons (ok_iload_n (kn := 3) rfl cx (by decide +kernel)) <|
  OkT.cons (ok_aload_n (kn := 0) rfl cx (by decide +kernel)) <|
  OkT.cons (ok_getI fg_RX1_21 (by decide) rfl cx (by decide +kernel)) <|
  OkT.cons (ok_Ic_ge (off := 35) (by decide) cx (by decide +kernel)) <|
  OkT.cons (ok_aload_n (kn := 1) rfl cx (by decide +kernel)) <|
  OkT.cons (ok_iload_n (kn := 2) rfl cx (by decide +kernel)) <|
  OkT.cons (ok_aload_n (kn := 0) rfl cx (by decide +kernel)) <|
  OkT.cons (ok_getA (k := 0) fg_RX1_11 (by decide) rfl cx (by decide +kernel)) <|
  OkT.cons (ok_iload_n (kn := 3) rfl cx (by decide +kernel)) <|
  OkT.cons (ok_callN hex rfl ca_RX1_53 hR hA cx (by decide +kernel)) <|
  OkT.cons (ok_callS hex rfl ca_RX1_49 hR hA cx (by decide +kernel)) <|
  OkT.cons (ok_aload_n (kn := 0) rfl cx (by decide +kernel)) <|
  OkT.cons (ok_getA (k := 1) fg_RX1_15 (by decide) rfl cx (by decide +kernel)) <|
  OkT.cons (ok_iload_n (kn := 3) rfl cx (by decide +kernel)) <|
  OkT.cons (ok_callN hex rfl ca_RX1_53 hR hA cx (by decide +kernel)) <|
  OkT.cons (ok_Ic_eq (off := 5) (by decide) cx (by decide +kernel)) <|
  OkT.cons (ok_iconst (n := 0) cx (by decide +kernel) rfl) <|
  OkT.cons (ok_retZ hr (by decide +kernel)) <|
  OkT.cons (ok_iinc (n := 1) rfl cx (by decide +kernel)) <|
  OkT.cons (ok_goto (off := (-37)) (by decide) cx (by decide +kernel)) <|
  OkT.cons (ok_fg [0, 1, 2, 3] (ok_iconst (n := 1) cx (by decide +kernel) rfl)) <|
  OkT.cons (ok_retZ hr (by decide +kernel)) <|
  OkT.nil⟩
def T_X1_answerOf (ex : Ex) : Tb := [(0, oIld 1 1), (1, oCallS ex 45 1), (4, oIld 2 1), (5, oIc_ge 14), (8, pS (fPush (.int 1024)) 3), (11, oGoto 23), (14, oAld 0 1), (15, oIld 1 1), (16, oIld 2 1), (17, oCallS ex 42 2), (20, oCallV ex 75 1 3), (23, oFg [0, 1, 2] (oRetI))]
set_option maxRecDepth 20000 in
theorem ta_X1_answerOf : TabOk MIS T_X1_answerOf mi_X1_answerOf := ⟨by decide +kernel, fun l d ex hex p e R s m args below meth c cells slots ad D cI cZ A cx hR hA hr =>
  OkT.cons (ok_iload_n (kn := 1) rfl cx (by decide +kernel)) <|
  OkT.cons (ok_callS hex rfl ca_RX1_68 hR hA cx (by decide +kernel)) <|
  OkT.cons (ok_iload_n (kn := 2) rfl cx (by decide +kernel)) <|
  OkT.cons (ok_Ic_ge (off := 9) (by decide) cx (by decide +kernel)) <|
  OkT.cons (ok_sipush (n := 1024) cx (by decide +kernel) rfl) <|
  OkT.cons (ok_goto (off := 12) (by decide) cx (by decide +kernel)) <|
  OkT.cons (ok_aload_n (kn := 0) rfl cx (by decide +kernel)) <|
  OkT.cons (ok_iload_n (kn := 1) rfl cx (by decide +kernel)) <|
  OkT.cons (ok_iload_n (kn := 2) rfl cx (by decide +kernel)) <|
  OkT.cons (ok_callS hex rfl ca_RX1_72 hR hA cx (by decide +kernel)) <|
  OkT.cons (ok_callV hex rfl rfl (by decide) ca_RX1_75 hR hA cx (by decide +kernel)) <|
  OkT.cons (ok_fg [0, 1, 2] (ok_retI hr (by decide +kernel))) <|
  OkT.nil⟩
def T_X2_traced (ex : Ex) : Tb := [(0, oAld 0 1), (1, oGetL 1 0), (4, oRetL)]
set_option maxRecDepth 20000 in
theorem ta_X2_traced : TabOk MIS T_X2_traced mi_X2_traced := ⟨by decide +kernel, fun l d ex hex p e R s m args below meth c cells slots ad D cI cZ A cx hR hA hr =>
  OkT.cons (ok_aload_n (kn := 0) rfl cx (by decide +kernel)) <|
  OkT.cons (ok_getL fg_RX2_7 (by decide) rfl cx (by decide +kernel)) <|
  OkT.cons (ok_retL hr (by decide +kernel)) <|
  OkT.nil⟩
def T_X2_rating (ex : Ex) : Tb := [(0, oIld 1 1), (1, oTsw [(1, 36), (2, 44), (3, 52), (4, 60), (5, 68)] 77), (36, oFg [1, 3] (oAld 0 1)), (37, oAld 2 1), (38, oIld 4 2), (40, oCallV ex 14 2 1), (43, oRetI), (44, oFg [1, 3] (oAld 0 1)), (45, oAld 2 1), (46, oIld 4 2), (48, oCallV ex 15 2 1), (51, oRetI), (52, oFg [1, 3] (oAld 0 1)), (53, oAld 2 1), (54, oIld 4 2), (56, oCallV ex 16 2 1), (59, oRetI), (60, oFg [1, 3] (oAld 0 1)), (61, oAld 2 1), (62, oIld 4 2), (64, oCallV ex 17 2 1), (67, oRetI), (68, oFg [1] (oAld 0 1)), (69, oAld 2 1), (70, oAld 3 1), (71, oIld 4 2), (73, oCallV ex 18 3 1), (76, oRetI), (77, oFg [1, 3] (oAld 0 1)), (78, oAld 2 1), (79, oIld 4 2), (81, oCallV ex 13 2 1), (84, oRetI)]
set_option maxRecDepth 20000 in
theorem ta_X2_rating : TabOk MIS T_X2_rating mi_X2_rating := ⟨by decide +kernel, fun l d ex hex p e R s m args below meth c cells slots ad D cI cZ A cx hR hA hr =>
  OkT.cons (ok_iload_n (kn := 1) rfl cx (by decide +kernel)) <|
  OkT.cons (ok_tsw (dflt := 76) (lo := 1) (hi := 5) (offs := #[35, 43, 51, 59, 67]) (len := 35) (by decide +kernel) cx (by decide +kernel)) <|
  OkT.cons (ok_fg [1, 3] (ok_aload_n (kn := 0) rfl cx (by decide +kernel))) <|
  OkT.cons (ok_aload_n (kn := 2) rfl cx (by decide +kernel)) <|
  OkT.cons (ok_iload cx (by decide +kernel)) <|
  OkT.cons (ok_callV hex rfl rfl (by decide) ca_RX2_13 hR hA cx (by decide +kernel)) <|
  OkT.cons (ok_retI hr (by decide +kernel)) <|
  OkT.cons (ok_fg [1, 3] (ok_aload_n (kn := 0) rfl cx (by decide +kernel))) <|
  OkT.cons (ok_aload_n (kn := 2) rfl cx (by decide +kernel)) <|
  OkT.cons (ok_iload cx (by decide +kernel)) <|
  OkT.cons (ok_callV hex rfl rfl (by decide) ca_RX2_17 hR hA cx (by decide +kernel)) <|
  OkT.cons (ok_retI hr (by decide +kernel)) <|
  OkT.cons (ok_fg [1, 3] (ok_aload_n (kn := 0) rfl cx (by decide +kernel))) <|
  OkT.cons (ok_aload_n (kn := 2) rfl cx (by decide +kernel)) <|
  OkT.cons (ok_iload cx (by decide +kernel)) <|
  OkT.cons (ok_callV hex rfl rfl (by decide) ca_RX2_20 hR hA cx (by decide +kernel)) <|
  OkT.cons (ok_retI hr (by decide +kernel)) <|
  OkT.cons (ok_fg [1, 3] (ok_aload_n (kn := 0) rfl cx (by decide +kernel))) <|
  OkT.cons (ok_aload_n (kn := 2) rfl cx (by decide +kernel)) <|
  OkT.cons (ok_iload cx (by decide +kernel)) <|
  OkT.cons (ok_callV hex rfl rfl (by decide) ca_RX2_23 hR hA cx (by decide +kernel)) <|
  OkT.cons (ok_retI hr (by decide +kernel)) <|
  OkT.cons (ok_fg [1] (ok_aload_n (kn := 0) rfl cx (by decide +kernel))) <|
  OkT.cons (ok_aload_n (kn := 2) rfl cx (by decide +kernel)) <|
  OkT.cons (ok_aload_n (kn := 3) rfl cx (by decide +kernel)) <|
  OkT.cons (ok_iload cx (by decide +kernel)) <|
  OkT.cons (ok_callV hex rfl rfl (by decide) ca_RX2_26 hR hA cx (by decide +kernel)) <|
  OkT.cons (ok_retI hr (by decide +kernel)) <|
  OkT.cons (ok_fg [1, 3] (ok_aload_n (kn := 0) rfl cx (by decide +kernel))) <|
  OkT.cons (ok_aload_n (kn := 2) rfl cx (by decide +kernel)) <|
  OkT.cons (ok_iload cx (by decide +kernel)) <|
  OkT.cons (ok_callV hex rfl rfl (by decide) ca_RX2_30 hR hA cx (by decide +kernel)) <|
  OkT.cons (ok_retI hr (by decide +kernel)) <|
  OkT.nil⟩
def T_X2_asSpell (ex : Ex) : Tb := [(0, oAld 0 1), (1, pS fDup 1), (2, oGetL 1 0), (5, pS (fPush (.long 1)) 1), (6, pS (fBL (fun x y => x + y)) 1), (7, oPutL 1 0), (10, oAld 1 1), (11, oIld 2 1), (12, oCallV ex 63 1 3), (15, oRetI)]
set_option maxRecDepth 20000 in
theorem ta_X2_asSpell : TabOk MIS T_X2_asSpell mi_X2_asSpell := ⟨by decide +kernel, fun l d ex hex p e R s m args below meth c cells slots ad D cI cZ A cx hR hA hr =>
  OkT.cons (ok_aload_n (kn := 0) rfl cx (by decide +kernel)) <|
  OkT.cons (ok_dup cx (by decide +kernel)) <|
  OkT.cons (ok_getL fg_RX2_7 (by decide) rfl cx (by decide +kernel)) <|
  OkT.cons (ok_lconst (n := 1) cx (by decide +kernel) rfl) <|
  OkT.cons (ok_ladd cx (by decide +kernel)) <|
  OkT.cons (ok_putL fp_RX2_7 (by decide) rfl cx (by decide +kernel)) <|
  OkT.cons (ok_aload_n (kn := 1) rfl cx (by decide +kernel)) <|
  OkT.cons (ok_iload_n (kn := 2) rfl cx (by decide +kernel)) <|
  OkT.cons (ok_callV hex rfl rfl (by decide) ca_RX2_33 hR hA cx (by decide +kernel)) <|
  OkT.cons (ok_retI hr (by decide +kernel)) <|
  OkT.nil⟩
def T_X2_asCharm (ex : Ex) : Tb := [(0, oAld 0 1), (1, pS fDup 1), (2, oGetL 1 0), (5, pS (fPush (.long 10)) 3), (8, pS (fBL (fun x y => x + y)) 1), (9, oPutL 1 0), (12, oAld 0 1), (13, oAld 1 1), (14, oIld 2 1), (15, oCallV ex 13 2 1), (18, oAld 1 1), (19, oIld 2 1), (20, oCallV ex 65 1 3), (23, pS (fB (fun x y => x + y)) 1), (24, oRetI)]
set_option maxRecDepth 20000 in
theorem ta_X2_asCharm : TabOk MIS T_X2_asCharm mi_X2_asCharm := ⟨by decide +kernel, fun l d ex hex p e R s m args below meth c cells slots ad D cI cZ A cx hR hA hr =>
  OkT.cons (ok_aload_n (kn := 0) rfl cx (by decide +kernel)) <|
  OkT.cons (ok_dup cx (by decide +kernel)) <|
  OkT.cons (ok_getL fg_RX2_7 (by decide) rfl cx (by decide +kernel)) <|
  OkT.cons (ok_ldc2 cx w_792 (by decide +kernel)) <|
  OkT.cons (ok_ladd cx (by decide +kernel)) <|
  OkT.cons (ok_putL fp_RX2_7 (by decide) rfl cx (by decide +kernel)) <|
  OkT.cons (ok_aload_n (kn := 0) rfl cx (by decide +kernel)) <|
  OkT.cons (ok_aload_n (kn := 1) rfl cx (by decide +kernel)) <|
  OkT.cons (ok_iload_n (kn := 2) rfl cx (by decide +kernel)) <|
  OkT.cons (ok_callV hex rfl rfl (by decide) ca_RX2_30 hR hA cx (by decide +kernel)) <|
  OkT.cons (ok_aload_n (kn := 1) rfl cx (by decide +kernel)) <|
  OkT.cons (ok_iload_n (kn := 2) rfl cx (by decide +kernel)) <|
  OkT.cons (ok_callV hex rfl rfl (by decide) ca_RX2_41 hR hA cx (by decide +kernel)) <|
  OkT.cons (ok_iadd cx (by decide +kernel)) <|
  OkT.cons (ok_retI hr (by decide +kernel)) <|
  OkT.nil⟩
def T_X2_asCurse (ex : Ex) : Tb := [(0, oAld 0 1), (1, pS fDup 1), (2, oGetL 1 0), (5, pS (fPush (.long 100)) 3), (8, pS (fBL (fun x y => x + y)) 1), (9, oPutL 1 0), (12, oAld 0 1), (13, oAld 1 1), (14, oIld 2 1), (15, oCallV ex 13 2 1), (18, oAld 1 1), (19, oIld 2 1), (20, oCallV ex 66 1 3), (23, pS (fB (fun x y => x - y)) 1), (24, oRetI)]
set_option maxRecDepth 20000 in
theorem ta_X2_asCurse : TabOk MIS T_X2_asCurse mi_X2_asCurse := ⟨by decide +kernel, fun l d ex hex p e R s m args below meth c cells slots ad D cI cZ A cx hR hA hr =>
  OkT.cons (ok_aload_n (kn := 0) rfl cx (by decide +kernel)) <|
  OkT.cons (ok_dup cx (by decide +kernel)) <|
  OkT.cons (ok_getL fg_RX2_7 (by decide) rfl cx (by decide +kernel)) <|
  OkT.cons (ok_ldc2 cx w_803 (by decide +kernel)) <|
  OkT.cons (ok_ladd cx (by decide +kernel)) <|
  OkT.cons (ok_putL fp_RX2_7 (by decide) rfl cx (by decide +kernel)) <|
  OkT.cons (ok_aload_n (kn := 0) rfl cx (by decide +kernel)) <|
  OkT.cons (ok_aload_n (kn := 1) rfl cx (by decide +kernel)) <|
  OkT.cons (ok_iload_n (kn := 2) rfl cx (by decide +kernel)) <|
  OkT.cons (ok_callV hex rfl rfl (by decide) ca_RX2_30 hR hA cx (by decide +kernel)) <|
  OkT.cons (ok_aload_n (kn := 1) rfl cx (by decide +kernel)) <|
  OkT.cons (ok_iload_n (kn := 2) rfl cx (by decide +kernel)) <|
  OkT.cons (ok_callV hex rfl rfl (by decide) ca_RX2_46 hR hA cx (by decide +kernel)) <|
  OkT.cons (ok_isub cx (by decide +kernel)) <|
  OkT.cons (ok_retI hr (by decide +kernel)) <|
  OkT.nil⟩
def T_X2_asFlame (ex : Ex) : Tb := [(0, oAld 0 1), (1, pS fDup 1), (2, oGetL 1 0), (5, pS (fPush (.long 1000)) 3), (8, pS (fBL (fun x y => x + y)) 1), (9, oPutL 1 0), (12, pS (fPush (.int 2)) 1), (13, oAld 0 1), (14, oAld 1 1), (15, oIld 2 1), (16, oCallV ex 14 2 1), (19, pS (fB (fun x y => x * y)) 1), (20, oRetI)]
set_option maxRecDepth 20000 in
theorem ta_X2_asFlame : TabOk MIS T_X2_asFlame mi_X2_asFlame := ⟨by decide +kernel, fun l d ex hex p e R s m args below meth c cells slots ad D cI cZ A cx hR hA hr =>
  OkT.cons (ok_aload_n (kn := 0) rfl cx (by decide +kernel)) <|
  OkT.cons (ok_dup cx (by decide +kernel)) <|
  OkT.cons (ok_getL fg_RX2_7 (by decide) rfl cx (by decide +kernel)) <|
  OkT.cons (ok_ldc2 cx w_809 (by decide +kernel)) <|
  OkT.cons (ok_ladd cx (by decide +kernel)) <|
  OkT.cons (ok_putL fp_RX2_7 (by decide) rfl cx (by decide +kernel)) <|
  OkT.cons (ok_iconst (n := 2) cx (by decide +kernel) rfl) <|
  OkT.cons (ok_aload_n (kn := 0) rfl cx (by decide +kernel)) <|
  OkT.cons (ok_aload_n (kn := 1) rfl cx (by decide +kernel)) <|
  OkT.cons (ok_iload_n (kn := 2) rfl cx (by decide +kernel)) <|
  OkT.cons (ok_callV hex rfl rfl (by decide) ca_RX2_13 hR hA cx (by decide +kernel)) <|
  OkT.cons (ok_imul cx (by decide +kernel)) <|
  OkT.cons (ok_retI hr (by decide +kernel)) <|
  OkT.nil⟩
def T_X2_asFrost (ex : Ex) : Tb := [(0, oAld 0 1), (1, pS fDup 1), (2, oGetL 1 0), (5, pS (fPush (.long 10000)) 3), (8, pS (fBL (fun x y => x + y)) 1), (9, oPutL 1 0), (12, oAld 0 1), (13, oAld 1 1), (14, oIld 2 1), (15, oCallV ex 15 2 1), (18, oAld 1 1), (19, oIld 2 1), (20, oCallV ex 70 1 3), (23, pS (fB (fun x y => x + y)) 1), (24, oRetI)]
set_option maxRecDepth 20000 in
theorem ta_X2_asFrost : TabOk MIS T_X2_asFrost mi_X2_asFrost := ⟨by decide +kernel, fun l d ex hex p e R s m args below meth c cells slots ad D cI cZ A cx hR hA hr =>
  OkT.cons (ok_aload_n (kn := 0) rfl cx (by decide +kernel)) <|
  OkT.cons (ok_dup cx (by decide +kernel)) <|
  OkT.cons (ok_getL fg_RX2_7 (by decide) rfl cx (by decide +kernel)) <|
  OkT.cons (ok_ldc2 cx w_814 (by decide +kernel)) <|
  OkT.cons (ok_ladd cx (by decide +kernel)) <|
  OkT.cons (ok_putL fp_RX2_7 (by decide) rfl cx (by decide +kernel)) <|
  OkT.cons (ok_aload_n (kn := 0) rfl cx (by decide +kernel)) <|
  OkT.cons (ok_aload_n (kn := 1) rfl cx (by decide +kernel)) <|
  OkT.cons (ok_iload_n (kn := 2) rfl cx (by decide +kernel)) <|
  OkT.cons (ok_callV hex rfl rfl (by decide) ca_RX2_17 hR hA cx (by decide +kernel)) <|
  OkT.cons (ok_aload_n (kn := 1) rfl cx (by decide +kernel)) <|
  OkT.cons (ok_iload_n (kn := 2) rfl cx (by decide +kernel)) <|
  OkT.cons (ok_callV hex rfl rfl (by decide) ca_RX2_53 hR hA cx (by decide +kernel)) <|
  OkT.cons (ok_iadd cx (by decide +kernel)) <|
  OkT.cons (ok_retI hr (by decide +kernel)) <|
  OkT.nil⟩
def T_X2_asWax (ex : Ex) : Tb := [(0, oAld 0 1), (1, pS fDup 1), (2, oGetL 1 0), (5, pS (fPush (.long 100000)) 3), (8, pS (fBL (fun x y => x + y)) 1), (9, oPutL 1 0), (12, oAld 0 1), (13, oAld 1 1), (14, oIld 3 1), (15, oCallV ex 13 2 1), (18, oAld 2 1), (19, oIld 3 1), (20, oCallV ex 99 1 5), (23, pS (fB (fun x y => x + y)) 1), (24, oRetI)]
set_option maxRecDepth 20000 in
theorem ta_X2_asWax : TabOk MIS T_X2_asWax mi_X2_asWax := ⟨by decide +kernel, fun l d ex hex p e R s m args below meth c cells slots ad D cI cZ A cx hR hA hr =>
  OkT.cons (ok_aload_n (kn := 0) rfl cx (by decide +kernel)) <|
  OkT.cons (ok_dup cx (by decide +kernel)) <|
  OkT.cons (ok_getL fg_RX2_7 (by decide) rfl cx (by decide +kernel)) <|
  OkT.cons (ok_ldc2 cx w_823 (by decide +kernel)) <|
  OkT.cons (ok_ladd cx (by decide +kernel)) <|
  OkT.cons (ok_putL fp_RX2_7 (by decide) rfl cx (by decide +kernel)) <|
  OkT.cons (ok_aload_n (kn := 0) rfl cx (by decide +kernel)) <|
  OkT.cons (ok_aload_n (kn := 1) rfl cx (by decide +kernel)) <|
  OkT.cons (ok_iload_n (kn := 3) rfl cx (by decide +kernel)) <|
  OkT.cons (ok_callV hex rfl rfl (by decide) ca_RX2_30 hR hA cx (by decide +kernel)) <|
  OkT.cons (ok_aload_n (kn := 2) rfl cx (by decide +kernel)) <|
  OkT.cons (ok_iload_n (kn := 3) rfl cx (by decide +kernel)) <|
  OkT.cons (ok_callV hex rfl rfl (by decide) ca_RX2_58 hR hA cx (by decide +kernel)) <|
  OkT.cons (ok_iadd cx (by decide +kernel)) <|
  OkT.cons (ok_retI hr (by decide +kernel)) <|
  OkT.nil⟩
def T_X3_length (ex : Ex) : Tb := [(0, oAld 0 1), (1, oGetI 2 1), (4, oRetI)]
set_option maxRecDepth 20000 in
theorem ta_X3_length : TabOk MIS T_X3_length mi_X3_length := ⟨by decide +kernel, fun l d ex hex p e R s m args below meth c cells slots ad D cI cZ A cx hR hA hr =>
  OkT.cons (ok_aload_n (kn := 0) rfl cx (by decide +kernel)) <|
  OkT.cons (ok_getI fg_RX3_18 (by decide) rfl cx (by decide +kernel)) <|
  OkT.cons (ok_retI hr (by decide +kernel)) <|
  OkT.nil⟩
def T_X3_empty (ex : Ex) : Tb := [(0, oAld 0 1), (1, pS (fPush (.int 0)) 1), (2, oPutI 2 1), (5, oRetV)]
set_option maxRecDepth 20000 in
theorem ta_X3_empty : TabOk MIS T_X3_empty mi_X3_empty := ⟨by decide +kernel, fun l d ex hex p e R s m args below meth c cells slots ad D cI cZ A cx hR hA hr =>
  OkT.cons (ok_aload_n (kn := 0) rfl cx (by decide +kernel)) <|
  OkT.cons (ok_iconst (n := 0) cx (by decide +kernel) rfl) <|
  OkT.cons (ok_putI fp_RX3_18 (by decide) rfl cx (by decide +kernel)) <|
  OkT.cons (ok_retV hr (by decide +kernel)) <|
  OkT.nil⟩
def T_X3_hasRoomFor (ex : Ex) : Tb := [(0, oIld 1 1), (1, pS (fPush (.int 300)) 3), (4, oAld 0 1), (5, oGetI 2 1), (8, pS (fB (fun x y => x - y)) 1), (9, oIc_gt 16), (12, pS (fPush (.int 1)) 1), (13, oGoto 17), (16, oFg [0, 1] (pS (fPush (.int 0)) 1)), (17, oFg [0, 1] (oRetZ))]
set_option maxRecDepth 20000 in
theorem ta_X3_hasRoomFor : TabOk MIS T_X3_hasRoomFor mi_X3_hasRoomFor := ⟨by decide +kernel, fun l d ex hex p e R s m args below meth c cells slots ad D cI cZ A cx hR hA hr =>
  OkT.cons (ok_iload_n (kn := 1) rfl cx (by decide +kernel)) <|
  OkT.cons (ok_sipush (n := 300) cx (by decide +kernel) rfl) <|
  OkT.cons (ok_aload_n (kn := 0) rfl cx (by decide +kernel)) <|
  OkT.cons (ok_getI fg_RX3_18 (by decide) rfl cx (by decide +kernel)) <|
  OkT.cons (ok_isub cx (by decide +kernel)) <|
  OkT.cons (ok_Ic_gt (off := 7) (by decide) cx (by decide +kernel)) <|
  OkT.cons (ok_iconst (n := 1) cx (by decide +kernel) rfl) <|
  OkT.cons (ok_goto (off := 4) (by decide) cx (by decide +kernel)) <|
  OkT.cons (ok_fg [0, 1] (ok_iconst (n := 0) cx (by decide +kernel) rfl)) <|
  OkT.cons (ok_fg [0, 1] (ok_retZ hr (by decide +kernel))) <|
  OkT.nil⟩
def T_X3_add (ex : Ex) : Tb := [(0, oAld 0 1), (1, oGetI 2 1), (4, pS (fPush (.int 300)) 3), (7, oIc_ge 32), (10, oAld 0 1), (11, oGetA 2 1), (14, oAld 0 1), (15, oGetI 2 1), (18, oIld 1 1), (19, oCallS ex 134 3), (22, oAld 0 1), (23, pS fDup 1), (24, oGetI 2 1), (27, pS (fPush (.int 1)) 1), (28, pS (fB (fun x y => x + y)) 1), (29, oPutI 2 1), (32, oFg [0, 1] (oRetV))]
set_option maxRecDepth 20000 in
theorem ta_X3_add : TabOk MIS T_X3_add mi_X3_add := ⟨by decide +kernel, fun l d ex hex p e R s m args below meth c cells slots ad D cI cZ A cx hR hA hr =>
  OkT.cons (ok_aload_n (kn := 0) rfl cx (by decide +kernel)) <|
  OkT.cons (ok_getI fg_RX3_18 (by decide) rfl cx (by decide +kernel)) <|
  OkT.cons (ok_sipush (n := 300) cx (by decide +kernel) rfl) <|
  OkT.cons (ok_Ic_ge (off := 25) (by decide) cx (by decide +kernel)) <|
  OkT.cons (ok_aload_n (kn := 0) rfl cx (by decide +kernel)) <|
  OkT.cons (ok_getA (k := 0) fg_RX3_11 (by decide) rfl cx (by decide +kernel)) <|
  OkT.cons (ok_aload_n (kn := 0) rfl cx (by decide +kernel)) <|
  OkT.cons (ok_getI fg_RX3_18 (by decide) rfl cx (by decide +kernel)) <|
  OkT.cons (ok_iload_n (kn := 1) rfl cx (by decide +kernel)) <|
  OkT.cons (ok_callN hex rfl ca_RX3_22 hR hA cx (by decide +kernel)) <|
  OkT.cons (ok_aload_n (kn := 0) rfl cx (by decide +kernel)) <|
  OkT.cons (ok_dup cx (by decide +kernel)) <|
  OkT.cons (ok_getI fg_RX3_18 (by decide) rfl cx (by decide +kernel)) <|
  OkT.cons (ok_iconst (n := 1) cx (by decide +kernel) rfl) <|
  OkT.cons (ok_iadd cx (by decide +kernel)) <|
  OkT.cons (ok_putI fp_RX3_18 (by decide) rfl cx (by decide +kernel)) <|
  OkT.cons (ok_fg [0, 1] (ok_retV hr (by decide +kernel))) <|
  OkT.nil⟩
def T_X3_read (ex : Ex) : Tb := [(0, oAld 1 1), (1, oCallV ex 46 0 3), (4, oAld 0 1), (5, pS (fPush (.int 0)) 1), (6, oPutI 2 2), (9, oAld 0 1), (10, pS (fPush (.int 0)) 1), (11, oPutI 2 6), (14, oAld 0 1), (15, pS (fPush (.int 0)) 1), (16, oPutI 2 9), (19, oAld 0 1), (20, pS (fPush (.int 0)) 1), (21, oPutI 2 10), (24, pS (fPush (.int 0)) 1), (25, oIst 2 1), (26, oIld 2 1), (27, pS (fPush (.int 300)) 3), (30, oIc_gt 79), (33, oAld 0 1), (34, oCallV ex 32 0 2), (37, oAld 0 1), (38, oGetI 2 3), (41, pS (fPush (.int 1)) 1), (42, oIc_ne 57), (45, oAld 0 1), (46, oGetI 2 6), (49, oIf_ne 57), (52, oAld 0 1), (53, oGetI 2 9), (56, oRetI), (57, oAld 0 1), (58, oAld 1 1), (59, oCallV ex 24 1 2), (62, oIf_ne 73), (65, pS (fPush (.int (-10))) 2), (67, oAld 0 1), (68, oGetI 2 4), (71, pS (fB (fun x y => x - y)) 1), (72, oRetI), (73, oInc 2 1), (76, oGoto 26), (79, oFg [1, 2] (pS (fPush (.int (-10))) 2)), (81, oAld 0 1), (82, oGetI 2 1), (85, pS (fB (fun x y => x - y)) 1), (86, oRetI)]
set_option maxRecDepth 20000 in
theorem ta_X3_read : TabOk MIS T_X3_read mi_X3_read := ⟨by decide +kernel, fun l d ex hex p e R s m args below meth c cells slots ad D cI cZ A cx hR hA hr =>
  OkT.cons (ok_aload_n (kn := 1) rfl cx (by decide +kernel)) <|
  OkT.cons (ok_callV hex rfl rfl (by decide) ca_RX3_26 hR hA cx (by decide +kernel)) <|
  OkT.cons (ok_aload_n (kn := 0) rfl cx (by decide +kernel)) <|
  OkT.cons (ok_iconst (n := 0) cx (by decide +kernel) rfl) <|
  OkT.cons (ok_putI fp_RX3_31 (by decide) rfl cx (by decide +kernel)) <|
  OkT.cons (ok_aload_n (kn := 0) rfl cx (by decide +kernel)) <|
  OkT.cons (ok_iconst (n := 0) cx (by decide +kernel) rfl) <|
  OkT.cons (ok_putI fp_RX3_34 (by decide) rfl cx (by decide +kernel)) <|
  OkT.cons (ok_aload_n (kn := 0) rfl cx (by decide +kernel)) <|
  OkT.cons (ok_iconst (n := 0) cx (by decide +kernel) rfl) <|
  OkT.cons (ok_putI fp_RX3_37 (by decide) rfl cx (by decide +kernel)) <|
  OkT.cons (ok_aload_n (kn := 0) rfl cx (by decide +kernel)) <|
  OkT.cons (ok_iconst (n := 0) cx (by decide +kernel) rfl) <|
  OkT.cons (ok_putI fp_RX3_40 (by decide) rfl cx (by decide +kernel)) <|
  OkT.cons (ok_iconst (n := 0) cx (by decide +kernel) rfl) <|
  OkT.cons (ok_istore_n (kn := 2) rfl cx (by decide +kernel)) <|
  OkT.cons (ok_iload_n (kn := 2) rfl cx (by decide +kernel)) <|
  OkT.cons (ok_sipush (n := 300) cx (by decide +kernel) rfl) <|
  OkT.cons (ok_Ic_gt (off := 49) (by decide) cx (by decide +kernel)) <|
  OkT.cons (ok_aload_n (kn := 0) rfl cx (by decide +kernel)) <|
  OkT.cons (ok_callV hex rfl rfl (by decide) ca_RX3_43 hR hA cx (by decide +kernel)) <|
  OkT.cons (ok_aload_n (kn := 0) rfl cx (by decide +kernel)) <|
  OkT.cons (ok_getI fg_RX3_46 (by decide) rfl cx (by decide +kernel)) <|
  OkT.cons (ok_iconst (n := 1) cx (by decide +kernel) rfl) <|
  OkT.cons (ok_Ic_ne (off := 15) (by decide) cx (by decide +kernel)) <|
  OkT.cons (ok_aload_n (kn := 0) rfl cx (by decide +kernel)) <|
  OkT.cons (ok_getI fg_RX3_34 (by decide) rfl cx (by decide +kernel)) <|
  OkT.cons (ok_If_ne (off := 8) (by decide) cx (by decide +kernel)) <|
  OkT.cons (ok_aload_n (kn := 0) rfl cx (by decide +kernel)) <|
  OkT.cons (ok_getI fg_RX3_37 (by decide) rfl cx (by decide +kernel)) <|
  OkT.cons (ok_retI hr (by decide +kernel)) <|
  OkT.cons (ok_aload_n (kn := 0) rfl cx (by decide +kernel)) <|
  OkT.cons (ok_aload_n (kn := 1) rfl cx (by decide +kernel)) <|
  OkT.cons (ok_callV hex rfl rfl (by decide) ca_RX3_49 hR hA cx (by decide +kernel)) <|
  OkT.cons (ok_If_ne (off := 11) (by decide) cx (by decide +kernel)) <|
  OkT.cons (ok_bipush (n := (-10)) cx (by decide +kernel) rfl) <|
  OkT.cons (ok_aload_n (kn := 0) rfl cx (by decide +kernel)) <|
  OkT.cons (ok_getI fg_RX3_53 (by decide) rfl cx (by decide +kernel)) <|
  OkT.cons (ok_isub cx (by decide +kernel)) <|
  OkT.cons (ok_retI hr (by decide +kernel)) <|
  OkT.cons (ok_iinc (n := 1) rfl cx (by decide +kernel)) <|
  OkT.cons (ok_goto (off := (-50)) (by decide) cx (by decide +kernel)) <|
  OkT.cons (ok_fg [1, 2] (ok_bipush (n := (-10)) cx (by decide +kernel) rfl)) <|
  OkT.cons (ok_aload_n (kn := 0) rfl cx (by decide +kernel)) <|
  OkT.cons (ok_getI fg_RX3_18 (by decide) rfl cx (by decide +kernel)) <|
  OkT.cons (ok_isub cx (by decide +kernel)) <|
  OkT.cons (ok_retI hr (by decide +kernel)) <|
  OkT.nil⟩
def T_X3_accepts (ex : Ex) : Tb := [(0, oAld 0 1), (1, oGetI 2 3), (4, oTsw [(0, 36), (1, 36), (2, 38), (3, 44)] 50), (36, oFg [0, 1] (pS (fPush (.int 0)) 1)), (37, oRetZ), (38, oAld 0 1), (39, oAld 1 1), (40, oCallV ex 29 1 2), (43, oRetZ), (44, oAld 0 1), (45, oAld 1 1), (46, oCallV ex 27 1 2), (49, oRetZ), (50, oAld 0 1), (51, oAld 1 1), (52, oCallV ex 25 1 2), (55, oRetZ)]
set_option maxRecDepth 20000 in
theorem ta_X3_accepts : TabOk MIS T_X3_accepts mi_X3_accepts := ⟨by decide +kernel, fun l d ex hex p e R s m args below meth c cells slots ad D cI cZ A cx hR hA hr =>
  OkT.cons (ok_aload_n (kn := 0) rfl cx (by decide +kernel)) <|
  OkT.cons (ok_getI fg_RX3_46 (by decide) rfl cx (by decide +kernel)) <|
  OkT.cons (ok_tsw (dflt := 46) (lo := 0) (hi := 3) (offs := #[32, 32, 34, 40]) (len := 32) (by decide +kernel) cx (by decide +kernel)) <|
  OkT.cons (ok_fg [0, 1] (ok_iconst (n := 0) cx (by decide +kernel) rfl)) <|
  OkT.cons (ok_retZ hr (by decide +kernel)) <|
  OkT.cons (ok_aload_n (kn := 0) rfl cx (by decide +kernel)) <|
  OkT.cons (ok_aload_n (kn := 1) rfl cx (by decide +kernel)) <|
  OkT.cons (ok_callV hex rfl rfl (by decide) ca_RX3_56 hR hA cx (by decide +kernel)) <|
  OkT.cons (ok_retZ hr (by decide +kernel)) <|
  OkT.cons (ok_aload_n (kn := 0) rfl cx (by decide +kernel)) <|
  OkT.cons (ok_aload_n (kn := 1) rfl cx (by decide +kernel)) <|
  OkT.cons (ok_callV hex rfl rfl (by decide) ca_RX3_59 hR hA cx (by decide +kernel)) <|
  OkT.cons (ok_retZ hr (by decide +kernel)) <|
  OkT.cons (ok_aload_n (kn := 0) rfl cx (by decide +kernel)) <|
  OkT.cons (ok_aload_n (kn := 1) rfl cx (by decide +kernel)) <|
  OkT.cons (ok_callV hex rfl rfl (by decide) ca_RX3_62 hR hA cx (by decide +kernel)) <|
  OkT.cons (ok_retZ hr (by decide +kernel)) <|
  OkT.nil⟩
def T_X3_opensItem (ex : Ex) : Tb := [(0, oAld 0 1), (1, oGetI 2 6), (4, oIf_ne 15), (7, oAld 0 1), (8, oAld 1 1), (9, oCallV ex 26 1 2), (12, oIf_ne 17), (15, oFg [0, 1] (pS (fPush (.int 0)) 1)), (16, oRetZ), (17, oFg [1] (oAld 0 1)), (18, oAld 0 1), (19, oGetI 2 3), (22, oPutI 2 6), (25, oAld 0 1), (26, pS (fPush (.int 0)) 1), (27, oPutI 2 8), (30, pS (fPush (.int 1)) 1), (31, oRetZ)]
set_option maxRecDepth 20000 in
theorem ta_X3_opensItem : TabOk MIS T_X3_opensItem mi_X3_opensItem := ⟨by decide +kernel, fun l d ex hex p e R s m args below meth c cells slots ad D cI cZ A cx hR hA hr =>
  OkT.cons (ok_aload_n (kn := 0) rfl cx (by decide +kernel)) <|
  OkT.cons (ok_getI fg_RX3_34 (by decide) rfl cx (by decide +kernel)) <|
  OkT.cons (ok_If_ne (off := 11) (by decide) cx (by decide +kernel)) <|
  OkT.cons (ok_aload_n (kn := 0) rfl cx (by decide +kernel)) <|
  OkT.cons (ok_aload_n (kn := 1) rfl cx (by decide +kernel)) <|
  OkT.cons (ok_callV hex rfl rfl (by decide) ca_RX3_65 hR hA cx (by decide +kernel)) <|
  OkT.cons (ok_If_ne (off := 5) (by decide) cx (by decide +kernel)) <|
  OkT.cons (ok_fg [0, 1] (ok_iconst (n := 0) cx (by decide +kernel) rfl)) <|
  OkT.cons (ok_retZ hr (by decide +kernel)) <|
  OkT.cons (ok_fg [1] (ok_aload_n (kn := 0) rfl cx (by decide +kernel))) <|
  OkT.cons (ok_aload_n (kn := 0) rfl cx (by decide +kernel)) <|
  OkT.cons (ok_getI fg_RX3_46 (by decide) rfl cx (by decide +kernel)) <|
  OkT.cons (ok_putI fp_RX3_34 (by decide) rfl cx (by decide +kernel)) <|
  OkT.cons (ok_aload_n (kn := 0) rfl cx (by decide +kernel)) <|
  OkT.cons (ok_iconst (n := 0) cx (by decide +kernel) rfl) <|
  OkT.cons (ok_putI fp_RX3_68 (by decide) rfl cx (by decide +kernel)) <|
  OkT.cons (ok_iconst (n := 1) cx (by decide +kernel) rfl) <|
  OkT.cons (ok_retZ hr (by decide +kernel)) <|
  OkT.nil⟩
def T_X3_hasPlaceForItem (ex : Ex) : Tb := [(0, oAld 0 1), (1, oGetI 2 3), (4, oTsw [(4, 32), (5, 46), (6, 60)] 74), (32, oFg [0] (oAld 1 1)), (33, oCallV ex 53 0 3), (36, pS (fPush (.int 5)) 1), (37, oIc_ge 44), (40, pS (fPush (.int 1)) 1), (41, oGoto 45), (44, oFg [0, 1] (pS (fPush (.int 0)) 1)), (45, oFg [0, 1] (oRetZ)), (46, oFg [0] (oAld 1 1)), (47, oCallV ex 54 0 3), (50, pS (fPush (.int 4)) 1), (51, oIc_ge 58), (54, pS (fPush (.int 1)) 1), (55, oGoto 59), (58, oFg [0, 1] (pS (fPush (.int 0)) 1)), (59, oFg [0, 1] (oRetZ)), (60, oFg [0] (oAld 1 1)), (61, oCallV ex 55 0 3), (64, pS (fPush (.int 3)) 1), (65, oIc_ge 72), (68, pS (fPush (.int 1)) 1), (69, oGoto 73), (72, oFg [0, 1] (pS (fPush (.int 0)) 1)), (73, oFg [0, 1] (oRetZ)), (74, oFg [1] (oAld 0 1)), (75, oGetI 2 10), (78, oAld 0 1), (79, oGetI 2 3), (82, pS (fB (fun x y => x >>> (y &&& 31))) 1), (83, pS (fPush (.int 1)) 1), (84, pS (fB (fun x y => x &&& y)) 1), (85, oIf_ne 92), (88, pS (fPush (.int 1)) 1), (89, oGoto 93), (92, oFg [0, 1] (pS (fPush (.int 0)) 1)), (93, oFg [0, 1] (oRetZ))]
set_option maxRecDepth 20000 in
theorem ta_X3_hasPlaceForItem : TabOk MIS T_X3_hasPlaceForItem mi_X3_hasPlaceForItem := ⟨by decide +kernel, fun l d ex hex p e R s m args below meth c cells slots ad D cI cZ A cx hR hA hr =>
  OkT.cons (ok_aload_n (kn := 0) rfl cx (by decide +kernel)) <|
  OkT.cons (ok_getI fg_RX3_46 (by decide) rfl cx (by decide +kernel)) <|
  OkT.cons (ok_tsw (dflt := 70) (lo := 4) (hi := 6) (offs := #[28, 42, 56]) (len := 28) (by decide +kernel) cx (by decide +kernel)) <|
  OkT.cons (ok_fg [0] (ok_aload_n (kn := 1) rfl cx (by decide +kernel))) <|
  OkT.cons (ok_callV hex rfl rfl (by decide) ca_RX3_71 hR hA cx (by decide +kernel)) <|
  OkT.cons (ok_iconst (n := 5) cx (by decide +kernel) rfl) <|
  OkT.cons (ok_Ic_ge (off := 7) (by decide) cx (by decide +kernel)) <|
  OkT.cons (ok_iconst (n := 1) cx (by decide +kernel) rfl) <|
  OkT.cons (ok_goto (off := 4) (by decide) cx (by decide +kernel)) <|
  OkT.cons (ok_fg [0, 1] (ok_iconst (n := 0) cx (by decide +kernel) rfl)) <|
  OkT.cons (ok_fg [0, 1] (ok_retZ hr (by decide +kernel))) <|
  OkT.cons (ok_fg [0] (ok_aload_n (kn := 1) rfl cx (by decide +kernel))) <|
  OkT.cons (ok_callV hex rfl rfl (by decide) ca_RX3_75 hR hA cx (by decide +kernel)) <|
  OkT.cons (ok_iconst (n := 4) cx (by decide +kernel) rfl) <|
  OkT.cons (ok_Ic_ge (off := 7) (by decide) cx (by decide +kernel)) <|
  OkT.cons (ok_iconst (n := 1) cx (by decide +kernel) rfl) <|
  OkT.cons (ok_goto (off := 4) (by decide) cx (by decide +kernel)) <|
  OkT.cons (ok_fg [0, 1] (ok_iconst (n := 0) cx (by decide +kernel) rfl)) <|
  OkT.cons (ok_fg [0, 1] (ok_retZ hr (by decide +kernel))) <|
  OkT.cons (ok_fg [0] (ok_aload_n (kn := 1) rfl cx (by decide +kernel))) <|
  OkT.cons (ok_callV hex rfl rfl (by decide) ca_RX3_78 hR hA cx (by decide +kernel)) <|
  OkT.cons (ok_iconst (n := 3) cx (by decide +kernel) rfl) <|
  OkT.cons (ok_Ic_ge (off := 7) (by decide) cx (by decide +kernel)) <|
  OkT.cons (ok_iconst (n := 1) cx (by decide +kernel) rfl) <|
  OkT.cons (ok_goto (off := 4) (by decide) cx (by decide +kernel)) <|
  OkT.cons (ok_fg [0, 1] (ok_iconst (n := 0) cx (by decide +kernel) rfl)) <|
  OkT.cons (ok_fg [0, 1] (ok_retZ hr (by decide +kernel))) <|
  OkT.cons (ok_fg [1] (ok_aload_n (kn := 0) rfl cx (by decide +kernel))) <|
  OkT.cons (ok_getI fg_RX3_40 (by decide) rfl cx (by decide +kernel)) <|
  OkT.cons (ok_aload_n (kn := 0) rfl cx (by decide +kernel)) <|
  OkT.cons (ok_getI fg_RX3_46 (by decide) rfl cx (by decide +kernel)) <|
  OkT.cons (ok_ishr cx (by decide +kernel)) <|
  OkT.cons (ok_iconst (n := 1) cx (by decide +kernel) rfl) <|
  OkT.cons (ok_iand cx (by decide +kernel)) <|
  OkT.cons (ok_If_ne (off := 7) (by decide) cx (by decide +kernel)) <|
  OkT.cons (ok_iconst (n := 1) cx (by decide +kernel) rfl) <|
  OkT.cons (ok_goto (off := 4) (by decide) cx (by decide +kernel)) <|
  OkT.cons (ok_fg [0, 1] (ok_iconst (n := 0) cx (by decide +kernel) rfl)) <|
  OkT.cons (ok_fg [0, 1] (ok_retZ hr (by decide +kernel))) <|
  OkT.nil⟩
def T_X3_addsNumber (ex : Ex) : Tb := [(0, oAld 0 1), (1, oAld 1 1), (2, oCallV ex 28 1 2), (5, oIf_ne 10), (8, pS (fPush (.int 0)) 1), (9, oRetZ), (10, oFg [1] (oAld 0 1)), (11, oGetA 2 2), (14, oAld 0 1), (15, oGetI 2 8), (18, oAld 0 1), (19, oGetI 2 5), (22, oCallS ex 134 3), (25, oAld 0 1), (26, pS fDup 1), (27, oGetI 2 8), (30, pS (fPush (.int 1)) 1), (31, pS (fB (fun x y => x + y)) 1), (32, oPutI 2 8), (35, pS (fPush (.int 1)) 1), (36, oRetZ)]
set_option maxRecDepth 20000 in
theorem ta_X3_addsNumber : TabOk MIS T_X3_addsNumber mi_X3_addsNumber := ⟨by decide +kernel, fun l d ex hex p e R s m args below meth c cells slots ad D cI cZ A cx hR hA hr =>
  OkT.cons (ok_aload_n (kn := 0) rfl cx (by decide +kernel)) <|
  OkT.cons (ok_aload_n (kn := 1) rfl cx (by decide +kernel)) <|
  OkT.cons (ok_callV hex rfl rfl (by decide) ca_RX3_81 hR hA cx (by decide +kernel)) <|
  OkT.cons (ok_If_ne (off := 5) (by decide) cx (by decide +kernel)) <|
  OkT.cons (ok_iconst (n := 0) cx (by decide +kernel) rfl) <|
  OkT.cons (ok_retZ hr (by decide +kernel)) <|
  OkT.cons (ok_fg [1] (ok_aload_n (kn := 0) rfl cx (by decide +kernel))) <|
  OkT.cons (ok_getA (k := 7) fg_RX3_15 (by decide) rfl cx (by decide +kernel)) <|
  OkT.cons (ok_aload_n (kn := 0) rfl cx (by decide +kernel)) <|
  OkT.cons (ok_getI fg_RX3_68 (by decide) rfl cx (by decide +kernel)) <|
  OkT.cons (ok_aload_n (kn := 0) rfl cx (by decide +kernel)) <|
  OkT.cons (ok_getI fg_RX3_84 (by decide) rfl cx (by decide +kernel)) <|
  OkT.cons (ok_callN hex rfl ca_RX3_22 hR hA cx (by decide +kernel)) <|
  OkT.cons (ok_aload_n (kn := 0) rfl cx (by decide +kernel)) <|
  OkT.cons (ok_dup cx (by decide +kernel)) <|
  OkT.cons (ok_getI fg_RX3_68 (by decide) rfl cx (by decide +kernel)) <|
  OkT.cons (ok_iconst (n := 1) cx (by decide +kernel) rfl) <|
  OkT.cons (ok_iadd cx (by decide +kernel)) <|
  OkT.cons (ok_putI fp_RX3_68 (by decide) rfl cx (by decide +kernel)) <|
  OkT.cons (ok_iconst (n := 1) cx (by decide +kernel) rfl) <|
  OkT.cons (ok_retZ hr (by decide +kernel)) <|
  OkT.nil⟩
def T_X3_canBeNext (ex : Ex) : Tb := [(0, oAld 0 1), (1, oGetI 2 6), (4, oTsw [(4, 44), (5, 79), (6, 104), (7, 131), (8, 131), (9, 154)] 184), (44, oFg [1] (oAld 0 1)), (45, oGetI 2 8), (48, pS (fPush (.int 4)) 1), (49, oIc_ge 77), (52, oAld 0 1), (53, oGetI 2 5), (56, oAld 0 1), (57, oGetI 2 8), (60, pS (fPush (.int 1)) 1), (61, oIc_ne 68), (64, pS (fPush (.int 1)) 1), (65, oGoto 70), (68, oFg [0, 1] (pS (fPush (.int 9)) 2)), (70, oFg [0, 1] (oIc_gt 77)), (73, pS (fPush (.int 1)) 1), (74, oGoto 78), (77, oFg [0, 1] (pS (fPush (.int 0)) 1)), (78, oFg [0, 1] (oRetZ)), (79, oAld 0 1), (80, oGetI 2 8), (83, pS (fPush (.int 5)) 1), (84, oIc_ge 102), (87, oAld 1 1), (88, oAld 0 1), (89, oGetI 2 5), (92, oCallV ex 59 1 3), (95, oIf_eq 102), (98, pS (fPush (.int 1)) 1), (99, oGoto 103), (102, oFg [0, 1] (pS (fPush (.int 0)) 1)), (103, oFg [0, 1] (oRetZ)), (104, oAld 0 1), (105, oGetI 2 8), (108, pS (fPush (.int 1)) 1), (109, oIc_ge 129), (112, oAld 0 1), (113, oGetI 2 5), (116, pS (fPush (.int 1)) 1), (117, oAld 1 1), (118, oCallV ex 53 0 3), (121, pS (fB (fun x y => x <<< (y &&& 31))) 1), (122, oIc_ge 129), (125, pS (fPush (.int 1)) 1), (126, oGoto 130), (129, oFg [0, 1] (pS (fPush (.int 0)) 1)), (130, oFg [0, 1] (oRetZ)), (131, oFg [1] (oAld 0 1)), (132, oGetI 2 8), (135, pS (fPush (.int 1)) 1), (136, oIc_ge 152), (139, oAld 0 1), (140, oGetI 2 5), (143, pS (fPush (.int 9)) 2), (145, oIc_gt 152), (148, pS (fPush (.int 1)) 1), (149, oGoto 153), (152, oFg [0, 1] (pS (fPush (.int 0)) 1)), (153, oFg [0, 1] (oRetZ)), (154, oFg [1] (oAld 0 1)), (155, oGetI 2 8), (158, pS (fPush (.int 1)) 1), (159, oIc_ge 182), (162, oAld 0 1), (163, oGetI 2 5), (166, pS (fPush (.int 1)) 1), (167, oIc_lt 182), (170, oAld 0 1), (171, oGetI 2 5), (174, pS (fPush (.int 5)) 1), (175, oIc_gt 182), (178, pS (fPush (.int 1)) 1), (179, oGoto 183), (182, oFg [0, 1] (pS (fPush (.int 0)) 1)), (183, oFg [0, 1] (oRetZ)), (184, oFg [0, 1] (pS (fPush (.int 0)) 1)), (185, oRetZ)]
set_option maxRecDepth 20000 in
theorem ta_X3_canBeNext : TabOk MIS T_X3_canBeNext mi_X3_canBeNext := ⟨by decide +kernel, fun l d ex hex p e R s m args below meth c cells slots ad D cI cZ A cx hR hA hr =>
  OkT.cons (ok_aload_n (kn := 0) rfl cx (by decide +kernel)) <|
  OkT.cons (ok_getI fg_RX3_34 (by decide) rfl cx (by decide +kernel)) <|
  OkT.cons (ok_tsw (dflt := 180) (lo := 4) (hi := 9) (offs := #[40, 75, 100, 127, 127, 150]) (len := 40) (by decide +kernel) cx (by decide +kernel)) <|
  OkT.cons (ok_fg [1] (ok_aload_n (kn := 0) rfl cx (by decide +kernel))) <|
  OkT.cons (ok_getI fg_RX3_68 (by decide) rfl cx (by decide +kernel)) <|
  OkT.cons (ok_iconst (n := 4) cx (by decide +kernel) rfl) <|
  OkT.cons (ok_Ic_ge (off := 28) (by decide) cx (by decide +kernel)) <|
  OkT.cons (ok_aload_n (kn := 0) rfl cx (by decide +kernel)) <|
  OkT.cons (ok_getI fg_RX3_84 (by decide) rfl cx (by decide +kernel)) <|
  OkT.cons (ok_aload_n (kn := 0) rfl cx (by decide +kernel)) <|
  OkT.cons (ok_getI fg_RX3_68 (by decide) rfl cx (by decide +kernel)) <|
  OkT.cons (ok_iconst (n := 1) cx (by decide +kernel) rfl) <|
  OkT.cons (ok_Ic_ne (off := 7) (by decide) cx (by decide +kernel)) <|
  OkT.cons (ok_iconst (n := 1) cx (by decide +kernel) rfl) <|
  OkT.cons (ok_goto (off := 5) (by decide) cx (by decide +kernel)) <|
  OkT.cons (ok_fg [0, 1] (ok_bipush (n := 9) cx (by decide +kernel) rfl)) <|
  OkT.cons (ok_fg [0, 1] (ok_Ic_gt (off := 7) (by decide) cx (by decide +kernel))) <|
  OkT.cons (ok_iconst (n := 1) cx (by decide +kernel) rfl) <|
  OkT.cons (ok_goto (off := 4) (by decide) cx (by decide +kernel)) <|
  OkT.cons (ok_fg [0, 1] (ok_iconst (n := 0) cx (by decide +kernel) rfl)) <|
  OkT.cons (ok_fg [0, 1] (ok_retZ hr (by decide +kernel))) <|
  OkT.cons (ok_aload_n (kn := 0) rfl cx (by decide +kernel)) <|
  OkT.cons (ok_getI fg_RX3_68 (by decide) rfl cx (by decide +kernel)) <|
  OkT.cons (ok_iconst (n := 5) cx (by decide +kernel) rfl) <|
  OkT.cons (ok_Ic_ge (off := 18) (by decide) cx (by decide +kernel)) <|
  OkT.cons (ok_aload_n (kn := 1) rfl cx (by decide +kernel)) <|
  OkT.cons (ok_aload_n (kn := 0) rfl cx (by decide +kernel)) <|
  OkT.cons (ok_getI fg_RX3_84 (by decide) rfl cx (by decide +kernel)) <|
  OkT.cons (ok_callV hex rfl rfl (by decide) ca_RX3_87 hR hA cx (by decide +kernel)) <|
  OkT.cons (ok_If_eq (off := 7) (by decide) cx (by decide +kernel)) <|
  OkT.cons (ok_iconst (n := 1) cx (by decide +kernel) rfl) <|
  OkT.cons (ok_goto (off := 4) (by decide) cx (by decide +kernel)) <|
  OkT.cons (ok_fg [0, 1] (ok_iconst (n := 0) cx (by decide +kernel) rfl)) <|
  OkT.cons (ok_fg [0, 1] (ok_retZ hr (by decide +kernel))) <|
  OkT.cons (ok_aload_n (kn := 0) rfl cx (by decide +kernel)) <|
  OkT.cons (ok_getI fg_RX3_68 (by decide) rfl cx (by decide +kernel)) <|
  OkT.cons (ok_iconst (n := 1) cx (by decide +kernel) rfl) <|
  OkT.cons (ok_Ic_ge (off := 20) (by decide) cx (by decide +kernel)) <|
  OkT.cons (ok_aload_n (kn := 0) rfl cx (by decide +kernel)) <|
  OkT.cons (ok_getI fg_RX3_84 (by decide) rfl cx (by decide +kernel)) <|
  OkT.cons (ok_iconst (n := 1) cx (by decide +kernel) rfl) <|
  OkT.cons (ok_aload_n (kn := 1) rfl cx (by decide +kernel)) <|
  OkT.cons (ok_callV hex rfl rfl (by decide) ca_RX3_71 hR hA cx (by decide +kernel)) <|
  OkT.cons (ok_ishl cx (by decide +kernel)) <|
  OkT.cons (ok_Ic_ge (off := 7) (by decide) cx (by decide +kernel)) <|
  OkT.cons (ok_iconst (n := 1) cx (by decide +kernel) rfl) <|
  OkT.cons (ok_goto (off := 4) (by decide) cx (by decide +kernel)) <|
  OkT.cons (ok_fg [0, 1] (ok_iconst (n := 0) cx (by decide +kernel) rfl)) <|
  OkT.cons (ok_fg [0, 1] (ok_retZ hr (by decide +kernel))) <|
  OkT.cons (ok_fg [1] (ok_aload_n (kn := 0) rfl cx (by decide +kernel))) <|
  OkT.cons (ok_getI fg_RX3_68 (by decide) rfl cx (by decide +kernel)) <|
  OkT.cons (ok_iconst (n := 1) cx (by decide +kernel) rfl) <|
  OkT.cons (ok_Ic_ge (off := 16) (by decide) cx (by decide +kernel)) <|
  OkT.cons (ok_aload_n (kn := 0) rfl cx (by decide +kernel)) <|
  OkT.cons (ok_getI fg_RX3_84 (by decide) rfl cx (by decide +kernel)) <|
  OkT.cons (ok_bipush (n := 9) cx (by decide +kernel) rfl) <|
  OkT.cons (ok_Ic_gt (off := 7) (by decide) cx (by decide +kernel)) <|
  OkT.cons (ok_iconst (n := 1) cx (by decide +kernel) rfl) <|
  OkT.cons (ok_goto (off := 4) (by decide) cx (by decide +kernel)) <|
  OkT.cons (ok_fg [0, 1] (ok_iconst (n := 0) cx (by decide +kernel) rfl)) <|
  OkT.cons (ok_fg [0, 1] (ok_retZ hr (by decide +kernel))) <|
  OkT.cons (ok_fg [1] (ok_aload_n (kn := 0) rfl cx (by decide +kernel))) <|
  OkT.cons (ok_getI fg_RX3_68 (by decide) rfl cx (by decide +kernel)) <|
  OkT.cons (ok_iconst (n := 1) cx (by decide +kernel) rfl) <|
  OkT.cons (ok_Ic_ge (off := 23) (by decide) cx (by decide +kernel)) <|
  OkT.cons (ok_aload_n (kn := 0) rfl cx (by decide +kernel)) <|
  OkT.cons (ok_getI fg_RX3_84 (by decide) rfl cx (by decide +kernel)) <|
  OkT.cons (ok_iconst (n := 1) cx (by decide +kernel) rfl) <|
  OkT.cons (ok_Ic_lt (off := 15) (by decide) cx (by decide +kernel)) <|
  OkT.cons (ok_aload_n (kn := 0) rfl cx (by decide +kernel)) <|
  OkT.cons (ok_getI fg_RX3_84 (by decide) rfl cx (by decide +kernel)) <|
  OkT.cons (ok_iconst (n := 5) cx (by decide +kernel) rfl) <|
  OkT.cons (ok_Ic_gt (off := 7) (by decide) cx (by decide +kernel)) <|
  OkT.cons (ok_iconst (n := 1) cx (by decide +kernel) rfl) <|
  OkT.cons (ok_goto (off := 4) (by decide) cx (by decide +kernel)) <|
  OkT.cons (ok_fg [0, 1] (ok_iconst (n := 0) cx (by decide +kernel) rfl)) <|
  OkT.cons (ok_fg [0, 1] (ok_retZ hr (by decide +kernel))) <|
  OkT.cons (ok_fg [0, 1] (ok_iconst (n := 0) cx (by decide +kernel) rfl)) <|
  OkT.cons (ok_retZ hr (by decide +kernel)) <|
  OkT.nil⟩
def T_X3_closesItem (ex : Ex) : Tb := [(0, oAld 0 1), (1, oGetI 2 6), (4, pS (fPush (.int 5)) 1), (5, oIc_eq 28), (8, oAld 0 1), (9, oGetI 2 8), (12, oAld 0 1), (13, oGetI 2 6), (16, pS (fPush (.int 4)) 1), (17, oIc_ne 24), (20, pS (fPush (.int 4)) 1), (21, oGoto 25), (24, oFg [2] (pS (fPush (.int 1)) 1)), (25, oFg [2] (oIc_ne 32)), (28, oFg [2] (pS (fPush (.int 1)) 1)), (29, oGoto 33), (32, oFg [2] (pS (fPush (.int 0)) 1)), (33, oFg [2] (oIst 2 1)), (34, oAld 0 1), (35, oGetI 2 6), (38, oIf_eq 45), (41, oIld 2 1), (42, oIf_ne 47), (45, oFg [0, 1, 2] (pS (fPush (.int 0)) 1)), (46, oRetZ), (47, oFg [2] (oAld 0 1)), (48, oAld 1 1), (49, oCallV ex 30 1 2), (52, oAld 0 1), (53, pS (fPush (.int 0)) 1), (54, oPutI 2 6), (57, oAld 0 1), (58, pS fDup 1), (59, oGetI 2 9), (62, pS (fPush (.int 1)) 1), (63, pS (fB (fun x y => x + y)) 1), (64, oPutI 2 9), (67, pS (fPush (.int 1)) 1), (68, oRetZ)]
set_option maxRecDepth 20000 in
theorem ta_X3_closesItem : TabOk MIS T_X3_closesItem mi_X3_closesItem := ⟨by decide +kernel, fun l d ex hex p e R s m args below meth c cells slots ad D cI cZ A cx hR hA hr =>
  OkT.cons (ok_aload_n (kn := 0) rfl cx (by decide +kernel)) <|
  OkT.cons (ok_getI fg_RX3_34 (by decide) rfl cx (by decide +kernel)) <|
  OkT.cons (ok_iconst (n := 5) cx (by decide +kernel) rfl) <|
  OkT.cons (ok_Ic_eq (off := 23) (by decide) cx (by decide +kernel)) <|
  OkT.cons (ok_aload_n (kn := 0) rfl cx (by decide +kernel)) <|
  OkT.cons (ok_getI fg_RX3_68 (by decide) rfl cx (by decide +kernel)) <|
  OkT.cons (ok_aload_n (kn := 0) rfl cx (by decide +kernel)) <|
  OkT.cons (ok_getI fg_RX3_34 (by decide) rfl cx (by decide +kernel)) <|
  OkT.cons (ok_iconst (n := 4) cx (by decide +kernel) rfl) <|
  OkT.cons (ok_Ic_ne (off := 7) (by decide) cx (by decide +kernel)) <|
  OkT.cons (ok_iconst (n := 4) cx (by decide +kernel) rfl) <|
  OkT.cons (ok_goto (off := 4) (by decide) cx (by decide +kernel)) <|
  OkT.cons (ok_fg [2] (ok_iconst (n := 1) cx (by decide +kernel) rfl)) <|
  OkT.cons (ok_fg [2] (ok_Ic_ne (off := 7) (by decide) cx (by decide +kernel))) <|
  OkT.cons (ok_fg [2] (ok_iconst (n := 1) cx (by decide +kernel) rfl)) <|
  OkT.cons (ok_goto (off := 4) (by decide) cx (by decide +kernel)) <|
  OkT.cons (ok_fg [2] (ok_iconst (n := 0) cx (by decide +kernel) rfl)) <|
  OkT.cons (ok_fg [2] (ok_istore_n (kn := 2) rfl cx (by decide +kernel))) <|
  OkT.cons (ok_aload_n (kn := 0) rfl cx (by decide +kernel)) <|
  OkT.cons (ok_getI fg_RX3_34 (by decide) rfl cx (by decide +kernel)) <|
  OkT.cons (ok_If_eq (off := 7) (by decide) cx (by decide +kernel)) <|
  OkT.cons (ok_iload_n (kn := 2) rfl cx (by decide +kernel)) <|
  OkT.cons (ok_If_ne (off := 5) (by decide) cx (by decide +kernel)) <|
  OkT.cons (ok_fg [0, 1, 2] (ok_iconst (n := 0) cx (by decide +kernel) rfl)) <|
  OkT.cons (ok_retZ hr (by decide +kernel)) <|
  OkT.cons (ok_fg [2] (ok_aload_n (kn := 0) rfl cx (by decide +kernel))) <|
  OkT.cons (ok_aload_n (kn := 1) rfl cx (by decide +kernel)) <|
  OkT.cons (ok_callV hex rfl rfl (by decide) ca_RX3_91 hR hA cx (by decide +kernel)) <|
  OkT.cons (ok_aload_n (kn := 0) rfl cx (by decide +kernel)) <|
  OkT.cons (ok_iconst (n := 0) cx (by decide +kernel) rfl) <|
  OkT.cons (ok_putI fp_RX3_34 (by decide) rfl cx (by decide +kernel)) <|
  OkT.cons (ok_aload_n (kn := 0) rfl cx (by decide +kernel)) <|
  OkT.cons (ok_dup cx (by decide +kernel)) <|
  OkT.cons (ok_getI fg_RX3_37 (by decide) rfl cx (by decide +kernel)) <|
  OkT.cons (ok_iconst (n := 1) cx (by decide +kernel) rfl) <|
  OkT.cons (ok_iadd cx (by decide +kernel)) <|
  OkT.cons (ok_putI fp_RX3_37 (by decide) rfl cx (by decide +kernel)) <|
  OkT.cons (ok_iconst (n := 1) cx (by decide +kernel) rfl) <|
  OkT.cons (ok_retZ hr (by decide +kernel)) <|
  OkT.nil⟩
def T_X3_tell (ex : Ex) : Tb := [(0, oAld 0 1), (1, oGetA 2 2), (4, pS (fPush (.int 0)) 1), (5, oCallS ex 133 2), (8, oIst 2 1), (9, oAld 0 1), (10, oGetI 2 6), (13, oTsw [(4, 48), (5, 80), (6, 91), (7, 99), (8, 107)] 115), (48, oAld 1 1), (49, oIld 2 1), (50, oAld 0 1), (51, oGetA 2 2), (54, pS (fPush (.int 1)) 1), (55, oCallS ex 133 2), (58, oAld 0 1), (59, oGetA 2 2), (62, pS (fPush (.int 2)) 1), (63, oCallS ex 133 2), (66, oAld 0 1), (67, oGetA 2 2), (70, pS (fPush (.int 3)) 1), (71, oCallS ex 133 2), (74, oCallV ex 47 4 3), (77, oGoto 120), (80, oFg [2] (oAld 1 1)), (81, oAld 0 1), (82, oCallV ex 31 0 2), (85, oCallV ex 48 1 3), (88, oGoto 120), (91, oAld 1 1), (92, oIld 2 1), (93, oCallV ex 49 1 3), (96, oGoto 120), (99, oAld 1 1), (100, oIld 2 1), (101, oCallV ex 50 1 3), (104, oGoto 120), (107, oAld 1 1), (108, oIld 2 1), (109, oCallV ex 51 1 3), (112, oGoto 120), (115, oAld 1 1), (116, oIld 2 1), (117, oCallV ex 52 1 3), (120, oFg [1, 2] (oAld 0 1)), (121, pS fDup 1), (122, oGetI 2 10), (125, pS (fPush (.int 1)) 1), (126, oAld 0 1), (127, oGetI 2 6), (130, pS (fB (fun x y => x <<< (y &&& 31))) 1), (131, pS (fB (fun x y => x ||| y)) 1), (132, oPutI 2 10), (135, oRetV)]
set_option maxRecDepth 20000 in
theorem ta_X3_tell : TabOk MIS T_X3_tell mi_X3_tell := ⟨by decide +kernel, fun l d ex hex p e R s m args below meth c cells slots ad D cI cZ A cx hR hA hr =>
  OkT.cons (ok_aload_n (kn := 0) rfl cx (by decide +kernel)) <|
  OkT.cons (ok_getA (k := 7) fg_RX3_15 (by decide) rfl cx (by decide +kernel)) <|
  OkT.cons (ok_iconst (n := 0) cx (by decide +kernel) rfl) <|
  OkT.cons (ok_callN hex rfl ca_RX3_95 hR hA cx (by decide +kernel)) <|
  OkT.cons (ok_istore_n (kn := 2) rfl cx (by decide +kernel)) <|
  OkT.cons (ok_aload_n (kn := 0) rfl cx (by decide +kernel)) <|
  OkT.cons (ok_getI fg_RX3_34 (by decide) rfl cx (by decide +kernel)) <|
  OkT.cons (ok_tsw (dflt := 102) (lo := 4) (hi := 8) (offs := #[35, 67, 78, 86, 94]) (len := 35) (by decide +kernel) cx (by decide +kernel)) <|
  OkT.cons (ok_aload_n (kn := 1) rfl cx (by decide +kernel)) <|
  OkT.cons (ok_iload_n (kn := 2) rfl cx (by decide +kernel)) <|
  OkT.cons (ok_aload_n (kn := 0) rfl cx (by decide +kernel)) <|
  OkT.cons (ok_getA (k := 7) fg_RX3_15 (by decide) rfl cx (by decide +kernel)) <|
  OkT.cons (ok_iconst (n := 1) cx (by decide +kernel) rfl) <|
  OkT.cons (ok_callN hex rfl ca_RX3_95 hR hA cx (by decide +kernel)) <|
  OkT.cons (ok_aload_n (kn := 0) rfl cx (by decide +kernel)) <|
  OkT.cons (ok_getA (k := 7) fg_RX3_15 (by decide) rfl cx (by decide +kernel)) <|
  OkT.cons (ok_iconst (n := 2) cx (by decide +kernel) rfl) <|
  OkT.cons (ok_callN hex rfl ca_RX3_95 hR hA cx (by decide +kernel)) <|
  OkT.cons (ok_aload_n (kn := 0) rfl cx (by decide +kernel)) <|
  OkT.cons (ok_getA (k := 7) fg_RX3_15 (by decide) rfl cx (by decide +kernel)) <|
  OkT.cons (ok_iconst (n := 3) cx (by decide +kernel) rfl) <|
  OkT.cons (ok_callN hex rfl ca_RX3_95 hR hA cx (by decide +kernel)) <|
  OkT.cons (ok_callV hex rfl rfl (by decide) ca_RX3_99 hR hA cx (by decide +kernel)) <|
  OkT.cons (ok_goto (off := 43) (by decide) cx (by decide +kernel)) <|
  OkT.cons (ok_fg [2] (ok_aload_n (kn := 1) rfl cx (by decide +kernel))) <|
  OkT.cons (ok_aload_n (kn := 0) rfl cx (by decide +kernel)) <|
  OkT.cons (ok_callV hex rfl rfl (by decide) ca_RX3_103 hR hA cx (by decide +kernel)) <|
  OkT.cons (ok_callV hex rfl rfl (by decide) ca_RX3_106 hR hA cx (by decide +kernel)) <|
  OkT.cons (ok_goto (off := 32) (by decide) cx (by decide +kernel)) <|
  OkT.cons (ok_aload_n (kn := 1) rfl cx (by decide +kernel)) <|
  OkT.cons (ok_iload_n (kn := 2) rfl cx (by decide +kernel)) <|
  OkT.cons (ok_callV hex rfl rfl (by decide) ca_RX3_110 hR hA cx (by decide +kernel)) <|
  OkT.cons (ok_goto (off := 24) (by decide) cx (by decide +kernel)) <|
  OkT.cons (ok_aload_n (kn := 1) rfl cx (by decide +kernel)) <|
  OkT.cons (ok_iload_n (kn := 2) rfl cx (by decide +kernel)) <|
  OkT.cons (ok_callV hex rfl rfl (by decide) ca_RX3_113 hR hA cx (by decide +kernel)) <|
  OkT.cons (ok_goto (off := 16) (by decide) cx (by decide +kernel)) <|
  OkT.cons (ok_aload_n (kn := 1) rfl cx (by decide +kernel)) <|
  OkT.cons (ok_iload_n (kn := 2) rfl cx (by decide +kernel)) <|
  OkT.cons (ok_callV hex rfl rfl (by decide) ca_RX3_116 hR hA cx (by decide +kernel)) <|
  OkT.cons (ok_goto (off := 8) (by decide) cx (by decide +kernel)) <|
  OkT.cons (ok_aload_n (kn := 1) rfl cx (by decide +kernel)) <|
  OkT.cons (ok_iload_n (kn := 2) rfl cx (by decide +kernel)) <|
  OkT.cons (ok_callV hex rfl rfl (by decide) ca_RX3_119 hR hA cx (by decide +kernel)) <|
  OkT.cons (ok_fg [1, 2] (ok_aload_n (kn := 0) rfl cx (by decide +kernel))) <|
  OkT.cons (ok_dup cx (by decide +kernel)) <|
  OkT.cons (ok_getI fg_RX3_40 (by decide) rfl cx (by decide +kernel)) <|
  OkT.cons (ok_iconst (n := 1) cx (by decide +kernel) rfl) <|
  OkT.cons (ok_aload_n (kn := 0) rfl cx (by decide +kernel)) <|
  OkT.cons (ok_getI fg_RX3_34 (by decide) rfl cx (by decide +kernel)) <|
  OkT.cons (ok_ishl cx (by decide +kernel)) <|
  OkT.cons (ok_ior cx (by decide +kernel)) <|
  OkT.cons (ok_putI fp_RX3_40 (by decide) rfl cx (by decide +kernel)) <|
  OkT.cons (ok_retV hr (by decide +kernel)) <|
  OkT.nil⟩
def T_X3_gatheredRow (ex : Ex) : Tb := [(0, pS (fPush (.int 0)) 1), (1, oIst 1 1), (2, pS (fPush (.int 0)) 1), (3, oIst 2 1), (4, oIld 2 1), (5, oAld 0 1), (6, oGetI 2 8), (9, oIc_ge 31), (12, oIld 1 1), (13, oAld 0 1), (14, oGetA 2 2), (17, oIld 2 1), (18, oCallS ex 133 2), (21, oCallS ex 39 2), (24, oIst 1 1), (25, oInc 2 1), (28, oGoto 4), (31, oFg [0, 2] (oIld 1 1)), (32, oRetI)]
set_option maxRecDepth 20000 in
theorem ta_X3_gatheredRow : TabOk MIS T_X3_gatheredRow mi_X3_gatheredRow := ⟨by decide +kernel, fun l d ex hex p e R s m args below meth c cells slots ad D cI cZ A cx hR hA hr =>
  OkT.cons (ok_iconst (n := 0) cx (by decide +kernel) rfl) <|
  OkT.cons (ok_istore_n (kn := 1) rfl cx (by decide +kernel)) <|
  OkT.cons (ok_iconst (n := 0) cx (by decide +kernel) rfl) <|
  OkT.cons (ok_istore_n (kn := 2) rfl cx (by decide +kernel)) <|
  OkT.cons (ok_iload_n (kn := 2) rfl cx (by decide +kernel)) <|
  OkT.cons (ok_aload_n (kn := 0) rfl cx (by decide +kernel)) <|
  OkT.cons (ok_getI fg_RX3_68 (by decide) rfl cx (by decide +kernel)) <|
  OkT.cons (ok_Ic_ge (off := 22) (by decide) cx (by decide +kernel)) <|
  OkT.cons (ok_iload_n (kn := 1) rfl cx (by decide +kernel)) <|
  OkT.cons (ok_aload_n (kn := 0) rfl cx (by decide +kernel)) <|
  OkT.cons (ok_getA (k := 7) fg_RX3_15 (by decide) rfl cx (by decide +kernel)) <|
  OkT.cons (ok_iload_n (kn := 2) rfl cx (by decide +kernel)) <|
  OkT.cons (ok_callN hex rfl ca_RX3_95 hR hA cx (by decide +kernel)) <|
  OkT.cons (ok_callS hex rfl ca_RX3_122 hR hA cx (by decide +kernel)) <|
  OkT.cons (ok_istore_n (kn := 1) rfl cx (by decide +kernel)) <|
  OkT.cons (ok_iinc (n := 1) rfl cx (by decide +kernel)) <|
  OkT.cons (ok_goto (off := (-24)) (by decide) cx (by decide +kernel)) <|
  OkT.cons (ok_fg [0, 2] (ok_iload_n (kn := 1) rfl cx (by decide +kernel))) <|
  OkT.cons (ok_retI hr (by decide +kernel)) <|
  OkT.nil⟩
def T_X3_readToken (ex : Ex) : Tb := [(0, oFg [1] (oAld 0 1)), (1, oGetI 2 2), (4, oAld 0 1), (5, oGetI 2 1), (8, oIc_ge 40), (11, oAld 0 1), (12, oGetA 2 1), (15, oAld 0 1), (16, oGetI 2 2), (19, oCallS ex 133 2), (22, pS (fPush (.int 32)) 2), (24, oIc_ne 40), (27, oAld 0 1), (28, pS fDup 1), (29, oGetI 2 2), (32, pS (fPush (.int 1)) 1), (33, pS (fB (fun x y => x + y)) 1), (34, oPutI 2 2), (37, oGoto 0), (40, oFg [1] (oAld 0 1)), (41, oAld 0 1), (42, oGetI 2 2), (45, oPutI 2 4), (48, oAld 0 1), (49, oGetI 2 2), (52, oAld 0 1), (53, oGetI 2 1), (56, oIc_lt 65), (59, oAld 0 1), (60, pS (fPush (.int 1)) 1), (61, oPutI 2 3), (64, oRetV), (65, oFg [1] (oAld 0 1)), (66, oGetA 2 1), (69, oAld 0 1), (70, oGetI 2 2), (73, oCallS ex 133 2), (76, oIst 1 1), (77, oIld 1 1), (78, oCallS ex 36 1), (81, oIf_eq 91), (84, oAld 0 1), (85, oCallV ex 33 0 2), (88, oGoto 130), (91, oIld 1 1), (92, oCallS ex 37 1), (95, oIf_eq 105), (98, oAld 0 1), (99, oCallV ex 34 0 2), (102, oGoto 130), (105, oAld 0 1), (106, oIld 1 1), (107, pS (fPush (.int 59)) 2), (109, oIc_ne 116), (112, pS (fPush (.int 2)) 1), (113, oGoto 117), (116, oFg [1] (pS (fPush (.int 0)) 1)), (117, oFg [1] (oPutI 2 3)), (120, oAld 0 1), (121, pS fDup 1), (122, oGetI 2 2), (125, pS (fPush (.int 1)) 1), (126, pS (fB (fun x y => x + y)) 1), (127, oPutI 2 2), (130, oFg [0, 1] (oRetV))]
set_option maxRecDepth 20000 in
theorem ta_X3_readToken : TabOk MIS T_X3_readToken mi_X3_readToken := ⟨by decide +kernel, fun l d ex hex p e R s m args below meth c cells slots ad D cI cZ A cx hR hA hr =>
  OkT.cons (ok_fg [1] (ok_aload_n (kn := 0) rfl cx (by decide +kernel))) <|
  OkT.cons (ok_getI fg_RX3_31 (by decide) rfl cx (by decide +kernel)) <|
  OkT.cons (ok_aload_n (kn := 0) rfl cx (by decide +kernel)) <|
  OkT.cons (ok_getI fg_RX3_18 (by decide) rfl cx (by decide +kernel)) <|
  OkT.cons (ok_Ic_ge (off := 32) (by decide) cx (by decide +kernel)) <|
  OkT.cons (ok_aload_n (kn := 0) rfl cx (by decide +kernel)) <|
  OkT.cons (ok_getA (k := 0) fg_RX3_11 (by decide) rfl cx (by decide +kernel)) <|
  OkT.cons (ok_aload_n (kn := 0) rfl cx (by decide +kernel)) <|
  OkT.cons (ok_getI fg_RX3_31 (by decide) rfl cx (by decide +kernel)) <|
  OkT.cons (ok_callN hex rfl ca_RX3_95 hR hA cx (by decide +kernel)) <|
  OkT.cons (ok_bipush (n := 32) cx (by decide +kernel) rfl) <|
  OkT.cons (ok_Ic_ne (off := 16) (by decide) cx (by decide +kernel)) <|
  OkT.cons (ok_aload_n (kn := 0) rfl cx (by decide +kernel)) <|
  OkT.cons (ok_dup cx (by decide +kernel)) <|
  OkT.cons (ok_getI fg_RX3_31 (by decide) rfl cx (by decide +kernel)) <|
  OkT.cons (ok_iconst (n := 1) cx (by decide +kernel) rfl) <|
  OkT.cons (ok_iadd cx (by decide +kernel)) <|
  OkT.cons (ok_putI fp_RX3_31 (by decide) rfl cx (by decide +kernel)) <|
  OkT.cons (ok_goto (off := (-37)) (by decide) cx (by decide +kernel)) <|
  OkT.cons (ok_fg [1] (ok_aload_n (kn := 0) rfl cx (by decide +kernel))) <|
  OkT.cons (ok_aload_n (kn := 0) rfl cx (by decide +kernel)) <|
  OkT.cons (ok_getI fg_RX3_31 (by decide) rfl cx (by decide +kernel)) <|
  OkT.cons (ok_putI fp_RX3_53 (by decide) rfl cx (by decide +kernel)) <|
  OkT.cons (ok_aload_n (kn := 0) rfl cx (by decide +kernel)) <|
  OkT.cons (ok_getI fg_RX3_31 (by decide) rfl cx (by decide +kernel)) <|
  OkT.cons (ok_aload_n (kn := 0) rfl cx (by decide +kernel)) <|
  OkT.cons (ok_getI fg_RX3_18 (by decide) rfl cx (by decide +kernel)) <|
  OkT.cons (ok_Ic_lt (off := 9) (by decide) cx (by decide +kernel)) <|
  OkT.cons (ok_aload_n (kn := 0) rfl cx (by decide +kernel)) <|
  OkT.cons (ok_iconst (n := 1) cx (by decide +kernel) rfl) <|
  OkT.cons (ok_putI fp_RX3_46 (by decide) rfl cx (by decide +kernel)) <|
  OkT.cons (ok_retV hr (by decide +kernel)) <|
  OkT.cons (ok_fg [1] (ok_aload_n (kn := 0) rfl cx (by decide +kernel))) <|
  OkT.cons (ok_getA (k := 0) fg_RX3_11 (by decide) rfl cx (by decide +kernel)) <|
  OkT.cons (ok_aload_n (kn := 0) rfl cx (by decide +kernel)) <|
  OkT.cons (ok_getI fg_RX3_31 (by decide) rfl cx (by decide +kernel)) <|
  OkT.cons (ok_callN hex rfl ca_RX3_95 hR hA cx (by decide +kernel)) <|
  OkT.cons (ok_istore_n (kn := 1) rfl cx (by decide +kernel)) <|
  OkT.cons (ok_iload_n (kn := 1) rfl cx (by decide +kernel)) <|
  OkT.cons (ok_callS hex rfl ca_RX3_128 hR hA cx (by decide +kernel)) <|
  OkT.cons (ok_If_eq (off := 10) (by decide) cx (by decide +kernel)) <|
  OkT.cons (ok_aload_n (kn := 0) rfl cx (by decide +kernel)) <|
  OkT.cons (ok_callV hex rfl rfl (by decide) ca_RX3_131 hR hA cx (by decide +kernel)) <|
  OkT.cons (ok_goto (off := 42) (by decide) cx (by decide +kernel)) <|
  OkT.cons (ok_iload_n (kn := 1) rfl cx (by decide +kernel)) <|
  OkT.cons (ok_callS hex rfl ca_RX3_134 hR hA cx (by decide +kernel)) <|
  OkT.cons (ok_If_eq (off := 10) (by decide) cx (by decide +kernel)) <|
  OkT.cons (ok_aload_n (kn := 0) rfl cx (by decide +kernel)) <|
  OkT.cons (ok_callV hex rfl rfl (by decide) ca_RX3_137 hR hA cx (by decide +kernel)) <|
  OkT.cons (ok_goto (off := 28) (by decide) cx (by decide +kernel)) <|
  OkT.cons (ok_aload_n (kn := 0) rfl cx (by decide +kernel)) <|
  OkT.cons (ok_iload_n (kn := 1) rfl cx (by decide +kernel)) <|
  OkT.cons (ok_bipush (n := 59) cx (by decide +kernel) rfl) <|
  OkT.cons (ok_Ic_ne (off := 7) (by decide) cx (by decide +kernel)) <|
  OkT.cons (ok_iconst (n := 2) cx (by decide +kernel) rfl) <|
  OkT.cons (ok_goto (off := 4) (by decide) cx (by decide +kernel)) <|
  OkT.cons (ok_fg [1] (ok_iconst (n := 0) cx (by decide +kernel) rfl)) <|
  OkT.cons (ok_fg [1] (ok_putI fp_RX3_46 (by decide) rfl cx (by decide +kernel))) <|
  OkT.cons (ok_aload_n (kn := 0) rfl cx (by decide +kernel)) <|
  OkT.cons (ok_dup cx (by decide +kernel)) <|
  OkT.cons (ok_getI fg_RX3_31 (by decide) rfl cx (by decide +kernel)) <|
  OkT.cons (ok_iconst (n := 1) cx (by decide +kernel) rfl) <|
  OkT.cons (ok_iadd cx (by decide +kernel)) <|
  OkT.cons (ok_putI fp_RX3_31 (by decide) rfl cx (by decide +kernel)) <|
  OkT.cons (ok_fg [0, 1] (ok_retV hr (by decide +kernel))) <|
  OkT.nil⟩
def T_X3_readDigits (ex : Ex) : Tb := [(0, oAld 0 1), (1, pS (fPush (.int 0)) 1), (2, oPutI 2 5), (5, oFg [1] (oAld 0 1)), (6, oGetI 2 2), (9, oAld 0 1), (10, oGetI 2 1), (13, oIc_ge 77), (16, oAld 0 1), (17, oGetA 2 1), (20, oAld 0 1), (21, oGetI 2 2), (24, oCallS ex 133 2), (27, oCallS ex 36 1), (30, oIf_eq 77), (33, oAld 0 1), (34, oAld 0 1), (35, oGetI 2 5), (38, pS (fPush (.int 10)) 2), (40, pS (fB (fun x y => x * y)) 1), (41, oAld 0 1), (42, oGetA 2 1), (45, oAld 0 1), (46, oGetI 2 2), (49, oCallS ex 133 2), (52, pS (fB (fun x y => x + y)) 1), (53, pS (fPush (.int 48)) 2), (55, pS (fB (fun x y => x - y)) 1), (56, pS (fPush (.int 100)) 2), (58, pS fMin 3), (61, oPutI 2 5), (64, oAld 0 1), (65, pS fDup 1), (66, oGetI 2 2), (69, pS (fPush (.int 1)) 1), (70, pS (fB (fun x y => x + y)) 1), (71, oPutI 2 2), (74, oGoto 5), (77, oFg [1] (oAld 0 1)), (78, oGetA 2 1), (81, oAld 0 1), (82, oGetI 2 4), (85, oCallS ex 133 2), (88, pS (fPush (.int 48)) 2), (90, oIc_ne 110), (93, oAld 0 1), (94, oGetI 2 2), (97, oAld 0 1), (98, oGetI 2 4), (101, pS (fPush (.int 1)) 1), (102, pS (fB (fun x y => x + y)) 1), (103, oIc_le 110), (106, pS (fPush (.int 1)) 1), (107, oGoto 111), (110, oFg [1] (pS (fPush (.int 0)) 1)), (111, oFg [1] (oIst 1 1)), (112, oAld 0 1), (113, oAld 0 1), (114, oGetI 2 5), (117, pS (fPush (.int 99)) 2), (119, oIc_gt 126), (122, oIld 1 1), (123, oIf_eq 130), (126, oFg [0, 1] (pS (fPush (.int 0)) 1)), (127, oGoto 131), (130, oFg [0, 1] (pS (fPush (.int 3)) 1)), (131, oFg [0, 1] (oPutI 2 3)), (134, oRetV)]
set_option maxRecDepth 20000 in
theorem ta_X3_readDigits : TabOk MIS T_X3_readDigits mi_X3_readDigits := ⟨by decide +kernel, fun l d ex hex p e R s m args below meth c cells slots ad D cI cZ A cx hR hA hr =>
  OkT.cons (ok_aload_n (kn := 0) rfl cx (by decide +kernel)) <|
  OkT.cons (ok_iconst (n := 0) cx (by decide +kernel) rfl) <|
  OkT.cons (ok_putI fp_RX3_84 (by decide) rfl cx (by decide +kernel)) <|
  OkT.cons (ok_fg [1] (ok_aload_n (kn := 0) rfl cx (by decide +kernel))) <|
  OkT.cons (ok_getI fg_RX3_31 (by decide) rfl cx (by decide +kernel)) <|
  OkT.cons (ok_aload_n (kn := 0) rfl cx (by decide +kernel)) <|
  OkT.cons (ok_getI fg_RX3_18 (by decide) rfl cx (by decide +kernel)) <|
  OkT.cons (ok_Ic_ge (off := 64) (by decide) cx (by decide +kernel)) <|
  OkT.cons (ok_aload_n (kn := 0) rfl cx (by decide +kernel)) <|
  OkT.cons (ok_getA (k := 0) fg_RX3_11 (by decide) rfl cx (by decide +kernel)) <|
  OkT.cons (ok_aload_n (kn := 0) rfl cx (by decide +kernel)) <|
  OkT.cons (ok_getI fg_RX3_31 (by decide) rfl cx (by decide +kernel)) <|
  OkT.cons (ok_callN hex rfl ca_RX3_95 hR hA cx (by decide +kernel)) <|
  OkT.cons (ok_callS hex rfl ca_RX3_128 hR hA cx (by decide +kernel)) <|
  OkT.cons (ok_If_eq (off := 47) (by decide) cx (by decide +kernel)) <|
  OkT.cons (ok_aload_n (kn := 0) rfl cx (by decide +kernel)) <|
  OkT.cons (ok_aload_n (kn := 0) rfl cx (by decide +kernel)) <|
  OkT.cons (ok_getI fg_RX3_84 (by decide) rfl cx (by decide +kernel)) <|
  OkT.cons (ok_bipush (n := 10) cx (by decide +kernel) rfl) <|
  OkT.cons (ok_imul cx (by decide +kernel)) <|
  OkT.cons (ok_aload_n (kn := 0) rfl cx (by decide +kernel)) <|
  OkT.cons (ok_getA (k := 0) fg_RX3_11 (by decide) rfl cx (by decide +kernel)) <|
  OkT.cons (ok_aload_n (kn := 0) rfl cx (by decide +kernel)) <|
  OkT.cons (ok_getI fg_RX3_31 (by decide) rfl cx (by decide +kernel)) <|
  OkT.cons (ok_callN hex rfl ca_RX3_95 hR hA cx (by decide +kernel)) <|
  OkT.cons (ok_iadd cx (by decide +kernel)) <|
  OkT.cons (ok_bipush (n := 48) cx (by decide +kernel) rfl) <|
  OkT.cons (ok_isub cx (by decide +kernel)) <|
  OkT.cons (ok_bipush (n := 100) cx (by decide +kernel) rfl) <|
  OkT.cons (ok_min w_273 w_274 w_10 (w_275) cx (by decide +kernel)) <|
  OkT.cons (ok_putI fp_RX3_84 (by decide) rfl cx (by decide +kernel)) <|
  OkT.cons (ok_aload_n (kn := 0) rfl cx (by decide +kernel)) <|
  OkT.cons (ok_dup cx (by decide +kernel)) <|
  OkT.cons (ok_getI fg_RX3_31 (by decide) rfl cx (by decide +kernel)) <|
  OkT.cons (ok_iconst (n := 1) cx (by decide +kernel) rfl) <|
  OkT.cons (ok_iadd cx (by decide +kernel)) <|
  OkT.cons (ok_putI fp_RX3_31 (by decide) rfl cx (by decide +kernel)) <|
  OkT.cons (ok_goto (off := (-69)) (by decide) cx (by decide +kernel)) <|
  OkT.cons (ok_fg [1] (ok_aload_n (kn := 0) rfl cx (by decide +kernel))) <|
  OkT.cons (ok_getA (k := 0) fg_RX3_11 (by decide) rfl cx (by decide +kernel)) <|
  OkT.cons (ok_aload_n (kn := 0) rfl cx (by decide +kernel)) <|
  OkT.cons (ok_getI fg_RX3_53 (by decide) rfl cx (by decide +kernel)) <|
  OkT.cons (ok_callN hex rfl ca_RX3_95 hR hA cx (by decide +kernel)) <|
  OkT.cons (ok_bipush (n := 48) cx (by decide +kernel) rfl) <|
  OkT.cons (ok_Ic_ne (off := 20) (by decide) cx (by decide +kernel)) <|
  OkT.cons (ok_aload_n (kn := 0) rfl cx (by decide +kernel)) <|
  OkT.cons (ok_getI fg_RX3_31 (by decide) rfl cx (by decide +kernel)) <|
  OkT.cons (ok_aload_n (kn := 0) rfl cx (by decide +kernel)) <|
  OkT.cons (ok_getI fg_RX3_53 (by decide) rfl cx (by decide +kernel)) <|
  OkT.cons (ok_iconst (n := 1) cx (by decide +kernel) rfl) <|
  OkT.cons (ok_iadd cx (by decide +kernel)) <|
  OkT.cons (ok_Ic_le (off := 7) (by decide) cx (by decide +kernel)) <|
  OkT.cons (ok_iconst (n := 1) cx (by decide +kernel) rfl) <|
  OkT.cons (ok_goto (off := 4) (by decide) cx (by decide +kernel)) <|
  OkT.cons (ok_fg [1] (ok_iconst (n := 0) cx (by decide +kernel) rfl)) <|
  OkT.cons (ok_fg [1] (ok_istore_n (kn := 1) rfl cx (by decide +kernel))) <|
  OkT.cons (ok_aload_n (kn := 0) rfl cx (by decide +kernel)) <|
  OkT.cons (ok_aload_n (kn := 0) rfl cx (by decide +kernel)) <|
  OkT.cons (ok_getI fg_RX3_84 (by decide) rfl cx (by decide +kernel)) <|
  OkT.cons (ok_bipush (n := 99) cx (by decide +kernel) rfl) <|
  OkT.cons (ok_Ic_gt (off := 7) (by decide) cx (by decide +kernel)) <|
  OkT.cons (ok_iload_n (kn := 1) rfl cx (by decide +kernel)) <|
  OkT.cons (ok_If_eq (off := 7) (by decide) cx (by decide +kernel)) <|
  OkT.cons (ok_fg [0, 1] (ok_iconst (n := 0) cx (by decide +kernel) rfl)) <|
  OkT.cons (ok_goto (off := 4) (by decide) cx (by decide +kernel)) <|
  OkT.cons (ok_fg [0, 1] (ok_iconst (n := 3) cx (by decide +kernel) rfl)) <|
  OkT.cons (ok_fg [0, 1] (ok_putI fp_RX3_46 (by decide) rfl cx (by decide +kernel))) <|
  OkT.cons (ok_retV hr (by decide +kernel)) <|
  OkT.nil⟩
def T_X3_readLetters (ex : Ex) : Tb := [(0, oAld 0 1), (1, oGetI 2 2), (4, oAld 0 1), (5, oGetI 2 1), (8, oIc_ge 41), (11, oAld 0 1), (12, oGetA 2 1), (15, oAld 0 1), (16, oGetI 2 2), (19, oCallS ex 133 2), (22, oCallS ex 37 1), (25, oIf_eq 41), (28, oAld 0 1), (29, pS fDup 1), (30, oGetI 2 2), (33, pS (fPush (.int 1)) 1), (34, pS (fB (fun x y => x + y)) 1), (35, oPutI 2 2), (38, oGoto 0), (41, oAld 0 1), (42, oLdS 0), (44, oCallV ex 35 1 2), (47, oIf_eq 58), (50, oAld 0 1), (51, pS (fPush (.int 4)) 1), (52, oPutI 2 3), (55, oGoto 148), (58, oAld 0 1), (59, oLdS 1), (61, oCallV ex 35 1 2), (64, oIf_eq 75), (67, oAld 0 1), (68, pS (fPush (.int 5)) 1), (69, oPutI 2 3), (72, oGoto 148), (75, oAld 0 1), (76, oLdS 2), (78, oCallV ex 35 1 2), (81, oIf_eq 93), (84, oAld 0 1), (85, pS (fPush (.int 6)) 2), (87, oPutI 2 3), (90, oGoto 148), (93, oAld 0 1), (94, oLdS 3), (96, oCallV ex 35 1 2), (99, oIf_eq 111), (102, oAld 0 1), (103, pS (fPush (.int 7)) 2), (105, oPutI 2 3), (108, oGoto 148), (111, oAld 0 1), (112, oLdS 4), (114, oCallV ex 35 1 2), (117, oIf_eq 129), (120, oAld 0 1), (121, pS (fPush (.int 8)) 2), (123, oPutI 2 3), (126, oGoto 148), (129, oAld 0 1), (130, oAld 0 1), (131, oLdS 5), (133, oCallV ex 35 1 2), (136, oIf_eq 144), (139, pS (fPush (.int 9)) 2), (141, oGoto 145), (144, oFg [0] (pS (fPush (.int 0)) 1)), (145, oFg [0] (oPutI 2 3)), (148, oFg [0] (oRetV))]
set_option maxRecDepth 20000 in
theorem ta_X3_readLetters : TabOk MIS T_X3_readLetters mi_X3_readLetters := ⟨by decide +kernel, fun l d ex hex p e R s m args below meth c cells slots ad D cI cZ A cx hR hA hr =>
  OkT.cons (ok_aload_n (kn := 0) rfl cx (by decide +kernel)) <|
  OkT.cons (ok_getI fg_RX3_31 (by decide) rfl cx (by decide +kernel)) <|
  OkT.cons (ok_aload_n (kn := 0) rfl cx (by decide +kernel)) <|
  OkT.cons (ok_getI fg_RX3_18 (by decide) rfl cx (by decide +kernel)) <|
  OkT.cons (ok_Ic_ge (off := 33) (by decide) cx (by decide +kernel)) <|
  OkT.cons (ok_aload_n (kn := 0) rfl cx (by decide +kernel)) <|
  OkT.cons (ok_getA (k := 0) fg_RX3_11 (by decide) rfl cx (by decide +kernel)) <|
  OkT.cons (ok_aload_n (kn := 0) rfl cx (by decide +kernel)) <|
  OkT.cons (ok_getI fg_RX3_31 (by decide) rfl cx (by decide +kernel)) <|
  OkT.cons (ok_callN hex rfl ca_RX3_95 hR hA cx (by decide +kernel)) <|
  OkT.cons (ok_callS hex rfl ca_RX3_134 hR hA cx (by decide +kernel)) <|
  OkT.cons (ok_If_eq (off := 16) (by decide) cx (by decide +kernel)) <|
  OkT.cons (ok_aload_n (kn := 0) rfl cx (by decide +kernel)) <|
  OkT.cons (ok_dup cx (by decide +kernel)) <|
  OkT.cons (ok_getI fg_RX3_31 (by decide) rfl cx (by decide +kernel)) <|
  OkT.cons (ok_iconst (n := 1) cx (by decide +kernel) rfl) <|
  OkT.cons (ok_iadd cx (by decide +kernel)) <|
  OkT.cons (ok_putI fp_RX3_31 (by decide) rfl cx (by decide +kernel)) <|
  OkT.cons (ok_goto (off := (-38)) (by decide) cx (by decide +kernel)) <|
  OkT.cons (ok_aload_n (kn := 0) rfl cx (by decide +kernel)) <|
  OkT.cons (ok_LdS (by decide) rfl rfl cx (by decide +kernel)) <|
  OkT.cons (ok_callV hex rfl rfl (by decide) ca_RX3_147 hR hA cx (by decide +kernel)) <|
  OkT.cons (ok_If_eq (off := 11) (by decide) cx (by decide +kernel)) <|
  OkT.cons (ok_aload_n (kn := 0) rfl cx (by decide +kernel)) <|
  OkT.cons (ok_iconst (n := 4) cx (by decide +kernel) rfl) <|
  OkT.cons (ok_putI fp_RX3_46 (by decide) rfl cx (by decide +kernel)) <|
  OkT.cons (ok_goto (off := 93) (by decide) cx (by decide +kernel)) <|
  OkT.cons (ok_aload_n (kn := 0) rfl cx (by decide +kernel)) <|
  OkT.cons (ok_LdS (by decide) rfl rfl cx (by decide +kernel)) <|
  OkT.cons (ok_callV hex rfl rfl (by decide) ca_RX3_147 hR hA cx (by decide +kernel)) <|
  OkT.cons (ok_If_eq (off := 11) (by decide) cx (by decide +kernel)) <|
  OkT.cons (ok_aload_n (kn := 0) rfl cx (by decide +kernel)) <|
  OkT.cons (ok_iconst (n := 5) cx (by decide +kernel) rfl) <|
  OkT.cons (ok_putI fp_RX3_46 (by decide) rfl cx (by decide +kernel)) <|
  OkT.cons (ok_goto (off := 76) (by decide) cx (by decide +kernel)) <|
  OkT.cons (ok_aload_n (kn := 0) rfl cx (by decide +kernel)) <|
  OkT.cons (ok_LdS (by decide) rfl rfl cx (by decide +kernel)) <|
  OkT.cons (ok_callV hex rfl rfl (by decide) ca_RX3_147 hR hA cx (by decide +kernel)) <|
  OkT.cons (ok_If_eq (off := 12) (by decide) cx (by decide +kernel)) <|
  OkT.cons (ok_aload_n (kn := 0) rfl cx (by decide +kernel)) <|
  OkT.cons (ok_bipush (n := 6) cx (by decide +kernel) rfl) <|
  OkT.cons (ok_putI fp_RX3_46 (by decide) rfl cx (by decide +kernel)) <|
  OkT.cons (ok_goto (off := 58) (by decide) cx (by decide +kernel)) <|
  OkT.cons (ok_aload_n (kn := 0) rfl cx (by decide +kernel)) <|
  OkT.cons (ok_LdS (by decide) rfl rfl cx (by decide +kernel)) <|
  OkT.cons (ok_callV hex rfl rfl (by decide) ca_RX3_147 hR hA cx (by decide +kernel)) <|
  OkT.cons (ok_If_eq (off := 12) (by decide) cx (by decide +kernel)) <|
  OkT.cons (ok_aload_n (kn := 0) rfl cx (by decide +kernel)) <|
  OkT.cons (ok_bipush (n := 7) cx (by decide +kernel) rfl) <|
  OkT.cons (ok_putI fp_RX3_46 (by decide) rfl cx (by decide +kernel)) <|
  OkT.cons (ok_goto (off := 40) (by decide) cx (by decide +kernel)) <|
  OkT.cons (ok_aload_n (kn := 0) rfl cx (by decide +kernel)) <|
  OkT.cons (ok_LdS (by decide) rfl rfl cx (by decide +kernel)) <|
  OkT.cons (ok_callV hex rfl rfl (by decide) ca_RX3_147 hR hA cx (by decide +kernel)) <|
  OkT.cons (ok_If_eq (off := 12) (by decide) cx (by decide +kernel)) <|
  OkT.cons (ok_aload_n (kn := 0) rfl cx (by decide +kernel)) <|
  OkT.cons (ok_bipush (n := 8) cx (by decide +kernel) rfl) <|
  OkT.cons (ok_putI fp_RX3_46 (by decide) rfl cx (by decide +kernel)) <|
  OkT.cons (ok_goto (off := 22) (by decide) cx (by decide +kernel)) <|
  OkT.cons (ok_aload_n (kn := 0) rfl cx (by decide +kernel)) <|
  OkT.cons (ok_aload_n (kn := 0) rfl cx (by decide +kernel)) <|
  OkT.cons (ok_LdS (by decide) rfl rfl cx (by decide +kernel)) <|
  OkT.cons (ok_callV hex rfl rfl (by decide) ca_RX3_147 hR hA cx (by decide +kernel)) <|
  OkT.cons (ok_If_eq (off := 8) (by decide) cx (by decide +kernel)) <|
  OkT.cons (ok_bipush (n := 9) cx (by decide +kernel) rfl) <|
  OkT.cons (ok_goto (off := 4) (by decide) cx (by decide +kernel)) <|
  OkT.cons (ok_fg [0] (ok_iconst (n := 0) cx (by decide +kernel) rfl)) <|
  OkT.cons (ok_fg [0] (ok_putI fp_RX3_46 (by decide) rfl cx (by decide +kernel))) <|
  OkT.cons (ok_fg [0] (ok_retV hr (by decide +kernel))) <|
  OkT.nil⟩
def T_X3_isWord (ex : Ex) : Tb := [(0, oAld 0 1), (1, oGetI 2 2), (4, oAld 0 1), (5, oGetI 2 4), (8, pS (fB (fun x y => x - y)) 1), (9, oAld 1 1), (10, oCallT ex 199 0), (13, oIc_eq 18), (16, pS (fPush (.int 0)) 1), (17, oRetZ), (18, oFg [2] (pS (fPush (.int 0)) 1)), (19, oIst 2 1), (20, oIld 2 1), (21, oAld 1 1), (22, oCallT ex 199 0), (25, oIc_ge 57), (28, oAld 0 1), (29, oGetA 2 1), (32, oAld 0 1), (33, oGetI 2 4), (36, oIld 2 1), (37, pS (fB (fun x y => x + y)) 1), (38, oCallS ex 133 2), (41, oAld 1 1), (42, oIld 2 1), (43, oCallT ex 200 1), (46, oIc_eq 51), (49, pS (fPush (.int 0)) 1), (50, oRetZ), (51, oInc 2 1), (54, oGoto 20), (57, oFg [0, 1, 2] (pS (fPush (.int 1)) 1)), (58, oRetZ)]
set_option maxRecDepth 20000 in
theorem ta_X3_isWord : TabOk MIS T_X3_isWord mi_X3_isWord := ⟨by decide +kernel, fun l d ex hex p e R s m args below meth c cells slots ad D cI cZ A cx hR hA hr =>
  OkT.cons (ok_aload_n (kn := 0) rfl cx (by decide +kernel)) <|
  OkT.cons (ok_getI fg_RX3_31 (by decide) rfl cx (by decide +kernel)) <|
  OkT.cons (ok_aload_n (kn := 0) rfl cx (by decide +kernel)) <|
  OkT.cons (ok_getI fg_RX3_53 (by decide) rfl cx (by decide +kernel)) <|
  OkT.cons (ok_isub cx (by decide +kernel)) <|
  OkT.cons (ok_aload_n (kn := 1) rfl cx (by decide +kernel)) <|
  OkT.cons (ok_callT hex rfl ca_RX3_161 hR hA cx (by decide +kernel)) <|
  OkT.cons (ok_Ic_eq (off := 5) (by decide) cx (by decide +kernel)) <|
  OkT.cons (ok_iconst (n := 0) cx (by decide +kernel) rfl) <|
  OkT.cons (ok_retZ hr (by decide +kernel)) <|
  OkT.cons (ok_fg [2] (ok_iconst (n := 0) cx (by decide +kernel) rfl)) <|
  OkT.cons (ok_istore_n (kn := 2) rfl cx (by decide +kernel)) <|
  OkT.cons (ok_iload_n (kn := 2) rfl cx (by decide +kernel)) <|
  OkT.cons (ok_aload_n (kn := 1) rfl cx (by decide +kernel)) <|
  OkT.cons (ok_callT hex rfl ca_RX3_161 hR hA cx (by decide +kernel)) <|
  OkT.cons (ok_Ic_ge (off := 32) (by decide) cx (by decide +kernel)) <|
  OkT.cons (ok_aload_n (kn := 0) rfl cx (by decide +kernel)) <|
  OkT.cons (ok_getA (k := 0) fg_RX3_11 (by decide) rfl cx (by decide +kernel)) <|
  OkT.cons (ok_aload_n (kn := 0) rfl cx (by decide +kernel)) <|
  OkT.cons (ok_getI fg_RX3_53 (by decide) rfl cx (by decide +kernel)) <|
  OkT.cons (ok_iload_n (kn := 2) rfl cx (by decide +kernel)) <|
  OkT.cons (ok_iadd cx (by decide +kernel)) <|
  OkT.cons (ok_callN hex rfl ca_RX3_95 hR hA cx (by decide +kernel)) <|
  OkT.cons (ok_aload_n (kn := 1) rfl cx (by decide +kernel)) <|
  OkT.cons (ok_iload_n (kn := 2) rfl cx (by decide +kernel)) <|
  OkT.cons (ok_callT hex rfl ca_RX3_165 hR hA cx (by decide +kernel)) <|
  OkT.cons (ok_Ic_eq (off := 5) (by decide) cx (by decide +kernel)) <|
  OkT.cons (ok_iconst (n := 0) cx (by decide +kernel) rfl) <|
  OkT.cons (ok_retZ hr (by decide +kernel)) <|
  OkT.cons (ok_iinc (n := 1) rfl cx (by decide +kernel)) <|
  OkT.cons (ok_goto (off := (-34)) (by decide) cx (by decide +kernel)) <|
  OkT.cons (ok_fg [0, 1, 2] (ok_iconst (n := 1) cx (by decide +kernel) rfl)) <|
  OkT.cons (ok_retZ hr (by decide +kernel)) <|
  OkT.nil⟩
def T_X3_isDigit (ex : Ex) : Tb := [(0, oIld 0 1), (1, pS (fPush (.int 48)) 2), (3, oIc_lt 16), (6, oIld 0 1), (7, pS (fPush (.int 57)) 2), (9, oIc_gt 16), (12, pS (fPush (.int 1)) 1), (13, oGoto 17), (16, oFg [0] (pS (fPush (.int 0)) 1)), (17, oFg [0] (oRetZ))]
set_option maxRecDepth 20000 in
theorem ta_X3_isDigit : TabOk MIS T_X3_isDigit mi_X3_isDigit := ⟨by decide +kernel, fun l d ex hex p e R s m args below meth c cells slots ad D cI cZ A cx hR hA hr =>
  OkT.cons (ok_iload_n (kn := 0) rfl cx (by decide +kernel)) <|
  OkT.cons (ok_bipush (n := 48) cx (by decide +kernel) rfl) <|
  OkT.cons (ok_Ic_lt (off := 13) (by decide) cx (by decide +kernel)) <|
  OkT.cons (ok_iload_n (kn := 0) rfl cx (by decide +kernel)) <|
  OkT.cons (ok_bipush (n := 57) cx (by decide +kernel) rfl) <|
  OkT.cons (ok_Ic_gt (off := 7) (by decide) cx (by decide +kernel)) <|
  OkT.cons (ok_iconst (n := 1) cx (by decide +kernel) rfl) <|
  OkT.cons (ok_goto (off := 4) (by decide) cx (by decide +kernel)) <|
  OkT.cons (ok_fg [0] (ok_iconst (n := 0) cx (by decide +kernel) rfl)) <|
  OkT.cons (ok_fg [0] (ok_retZ hr (by decide +kernel))) <|
  OkT.nil⟩
def T_X3_isLetter (ex : Ex) : Tb := [(0, oIld 0 1), (1, pS (fPush (.int 97)) 2), (3, oIc_lt 16), (6, oIld 0 1), (7, pS (fPush (.int 122)) 2), (9, oIc_gt 16), (12, pS (fPush (.int 1)) 1), (13, oGoto 17), (16, oFg [0] (pS (fPush (.int 0)) 1)), (17, oFg [0] (oRetZ))]
set_option maxRecDepth 20000 in
theorem ta_X3_isLetter : TabOk MIS T_X3_isLetter mi_X3_isLetter := ⟨by decide +kernel, fun l d ex hex p e R s m args below meth c cells slots ad D cI cZ A cx hR hA hr =>
  OkT.cons (ok_iload_n (kn := 0) rfl cx (by decide +kernel)) <|
  OkT.cons (ok_bipush (n := 97) cx (by decide +kernel) rfl) <|
  OkT.cons (ok_Ic_lt (off := 13) (by decide) cx (by decide +kernel)) <|
  OkT.cons (ok_iload_n (kn := 0) rfl cx (by decide +kernel)) <|
  OkT.cons (ok_bipush (n := 122) cx (by decide +kernel) rfl) <|
  OkT.cons (ok_Ic_gt (off := 7) (by decide) cx (by decide +kernel)) <|
  OkT.cons (ok_iconst (n := 1) cx (by decide +kernel) rfl) <|
  OkT.cons (ok_goto (off := 4) (by decide) cx (by decide +kernel)) <|
  OkT.cons (ok_fg [0] (ok_iconst (n := 0) cx (by decide +kernel) rfl)) <|
  OkT.cons (ok_fg [0] (ok_retZ hr (by decide +kernel))) <|
  OkT.nil⟩
def T_X4_isFull (ex : Ex) : Tb := [(0, oIld 0 1), (1, pS (fPush (.int 781)) 3), (4, oIc_lt 11), (7, pS (fPush (.int 1)) 1), (8, oGoto 12), (11, oFg [0] (pS (fPush (.int 0)) 1)), (12, oFg [0] (oRetZ))]
set_option maxRecDepth 20000 in
theorem ta_X4_isFull : TabOk MIS T_X4_isFull mi_X4_isFull := ⟨by decide +kernel, fun l d ex hex p e R s m args below meth c cells slots ad D cI cZ A cx hR hA hr =>
  OkT.cons (ok_iload_n (kn := 0) rfl cx (by decide +kernel)) <|
  OkT.cons (ok_sipush (n := 781) cx (by decide +kernel) rfl) <|
  OkT.cons (ok_Ic_lt (off := 7) (by decide) cx (by decide +kernel)) <|
  OkT.cons (ok_iconst (n := 1) cx (by decide +kernel) rfl) <|
  OkT.cons (ok_goto (off := 4) (by decide) cx (by decide +kernel)) <|
  OkT.cons (ok_fg [0] (ok_iconst (n := 0) cx (by decide +kernel) rfl)) <|
  OkT.cons (ok_fg [0] (ok_retZ hr (by decide +kernel))) <|
  OkT.nil⟩
def T_X4_with (ex : Ex) : Tb := [(0, oIld 0 1), (1, pS (fPush (.int 5)) 1), (2, pS (fB (fun x y => x * y)) 1), (3, oIld 1 1), (4, pS (fB (fun x y => x + y)) 1), (5, pS (fPush (.int 1)) 1), (6, pS (fB (fun x y => x + y)) 1), (7, oRetI)]
set_option maxRecDepth 20000 in
theorem ta_X4_with : TabOk MIS T_X4_with mi_X4_with := ⟨by decide +kernel, fun l d ex hex p e R s m args below meth c cells slots ad D cI cZ A cx hR hA hr =>
  OkT.cons (ok_iload_n (kn := 0) rfl cx (by decide +kernel)) <|
  OkT.cons (ok_iconst (n := 5) cx (by decide +kernel) rfl) <|
  OkT.cons (ok_imul cx (by decide +kernel)) <|
  OkT.cons (ok_iload_n (kn := 1) rfl cx (by decide +kernel)) <|
  OkT.cons (ok_iadd cx (by decide +kernel)) <|
  OkT.cons (ok_iconst (n := 1) cx (by decide +kernel) rfl) <|
  OkT.cons (ok_iadd cx (by decide +kernel)) <|
  OkT.cons (ok_retI hr (by decide +kernel)) <|
  OkT.nil⟩
def T_X4_top (ex : Ex) : Tb := [(0, oIld 0 1), (1, oIf_le 12), (4, oIld 0 1), (5, pS (fPush (.int 1)) 1), (6, pS (fB (fun x y => x - y)) 1), (7, pS (fPush (.int 5)) 1), (8, pS (fDv (fun x y => x - x / y * y)) 1), (9, oGoto 14), (12, oFg [0] (pS (fPush (.int (-5))) 2)), (14, oFg [0] (oRetI))]
set_option maxRecDepth 20000 in
theorem ta_X4_top : TabOk MIS T_X4_top mi_X4_top := ⟨by decide +kernel, fun l d ex hex p e R s m args below meth c cells slots ad D cI cZ A cx hR hA hr =>
  OkT.cons (ok_iload_n (kn := 0) rfl cx (by decide +kernel)) <|
  OkT.cons (ok_If_le (off := 11) (by decide) cx (by decide +kernel)) <|
  OkT.cons (ok_iload_n (kn := 0) rfl cx (by decide +kernel)) <|
  OkT.cons (ok_iconst (n := 1) cx (by decide +kernel) rfl) <|
  OkT.cons (ok_isub cx (by decide +kernel)) <|
  OkT.cons (ok_iconst (n := 5) cx (by decide +kernel) rfl) <|
  OkT.cons (ok_irem cx (by decide +kernel)) <|
  OkT.cons (ok_goto (off := 5) (by decide) cx (by decide +kernel)) <|
  OkT.cons (ok_fg [0] (ok_bipush (n := (-5)) cx (by decide +kernel) rfl)) <|
  OkT.cons (ok_fg [0] (ok_retI hr (by decide +kernel))) <|
  OkT.nil⟩
def T_X4_below (ex : Ex) : Tb := [(0, oIld 0 1), (1, oIf_le 12), (4, oIld 0 1), (5, pS (fPush (.int 1)) 1), (6, pS (fB (fun x y => x - y)) 1), (7, pS (fPush (.int 5)) 1), (8, pS (fDv (fun x y => x / y)) 1), (9, oGoto 13), (12, oFg [0] (pS (fPush (.int 0)) 1)), (13, oFg [0] (oRetI))]
set_option maxRecDepth 20000 in
theorem ta_X4_below : TabOk MIS T_X4_below mi_X4_below := ⟨by decide +kernel, fun l d ex hex p e R s m args below meth c cells slots ad D cI cZ A cx hR hA hr =>
  OkT.cons (ok_iload_n (kn := 0) rfl cx (by decide +kernel)) <|
  OkT.cons (ok_If_le (off := 11) (by decide) cx (by decide +kernel)) <|
  OkT.cons (ok_iload_n (kn := 0) rfl cx (by decide +kernel)) <|
  OkT.cons (ok_iconst (n := 1) cx (by decide +kernel) rfl) <|
  OkT.cons (ok_isub cx (by decide +kernel)) <|
  OkT.cons (ok_iconst (n := 5) cx (by decide +kernel) rfl) <|
  OkT.cons (ok_idiv cx (by decide +kernel)) <|
  OkT.cons (ok_goto (off := 4) (by decide) cx (by decide +kernel)) <|
  OkT.cons (ok_fg [0] (ok_iconst (n := 0) cx (by decide +kernel) rfl)) <|
  OkT.cons (ok_fg [0] (ok_retI hr (by decide +kernel))) <|
  OkT.nil⟩
def T_X4_without (ex : Ex) : Tb := [(0, oIld 0 1), (1, oIst 2 1), (2, pS (fPush (.int 0)) 1), (3, oIst 3 1), (4, oFg [0] (oIld 3 1)), (5, oIld 1 1), (6, oIc_ge 24), (9, oIld 2 1), (10, oIf_le 24), (13, oIld 2 1), (14, oCallS ex 41 1), (17, oIst 2 1), (18, oInc 3 1), (21, oGoto 4), (24, oFg [0, 1, 3] (oIld 2 1)), (25, oRetI)]
set_option maxRecDepth 20000 in
theorem ta_X4_without : TabOk MIS T_X4_without mi_X4_without := ⟨by decide +kernel, fun l d ex hex p e R s m args below meth c cells slots ad D cI cZ A cx hR hA hr =>
  OkT.cons (ok_iload_n (kn := 0) rfl cx (by decide +kernel)) <|
  OkT.cons (ok_istore_n (kn := 2) rfl cx (by decide +kernel)) <|
  OkT.cons (ok_iconst (n := 0) cx (by decide +kernel) rfl) <|
  OkT.cons (ok_istore_n (kn := 3) rfl cx (by decide +kernel)) <|
  OkT.cons (ok_fg [0] (ok_iload_n (kn := 3) rfl cx (by decide +kernel))) <|
  OkT.cons (ok_iload_n (kn := 1) rfl cx (by decide +kernel)) <|
  OkT.cons (ok_Ic_ge (off := 18) (by decide) cx (by decide +kernel)) <|
  OkT.cons (ok_iload_n (kn := 2) rfl cx (by decide +kernel)) <|
  OkT.cons (ok_If_le (off := 14) (by decide) cx (by decide +kernel)) <|
  OkT.cons (ok_iload_n (kn := 2) rfl cx (by decide +kernel)) <|
  OkT.cons (ok_callS hex rfl ca_RX4_11 hR hA cx (by decide +kernel)) <|
  OkT.cons (ok_istore_n (kn := 2) rfl cx (by decide +kernel)) <|
  OkT.cons (ok_iinc (n := 1) rfl cx (by decide +kernel)) <|
  OkT.cons (ok_goto (off := (-17)) (by decide) cx (by decide +kernel)) <|
  OkT.cons (ok_fg [0, 1, 3] (ok_iload_n (kn := 2) rfl cx (by decide +kernel))) <|
  OkT.cons (ok_retI hr (by decide +kernel)) <|
  OkT.nil⟩
def T_X4_fromAbove (ex : Ex) : Tb := [(0, oIld 0 1), (1, oIld 1 1), (2, oCallS ex 42 2), (5, oCallS ex 40 1), (8, oRetI)]
set_option maxRecDepth 20000 in
theorem ta_X4_fromAbove : TabOk MIS T_X4_fromAbove mi_X4_fromAbove := ⟨by decide +kernel, fun l d ex hex p e R s m args below meth c cells slots ad D cI cZ A cx hR hA hr =>
  OkT.cons (ok_iload_n (kn := 0) rfl cx (by decide +kernel)) <|
  OkT.cons (ok_iload_n (kn := 1) rfl cx (by decide +kernel)) <|
  OkT.cons (ok_callS hex rfl ca_RX4_15 hR hA cx (by decide +kernel)) <|
  OkT.cons (ok_callS hex rfl ca_RX4_19 hR hA cx (by decide +kernel)) <|
  OkT.cons (ok_retI hr (by decide +kernel)) <|
  OkT.nil⟩
def T_X4_swapped (ex : Ex) : Tb := [(0, oIld 0 1), (1, oCallS ex 41 1), (4, oIst 1 1), (5, oIld 1 1), (6, oCallS ex 41 1), (9, oIld 0 1), (10, oCallS ex 40 1), (13, oCallS ex 39 2), (16, oIld 1 1), (17, oCallS ex 40 1), (20, oCallS ex 39 2), (23, oRetI)]
set_option maxRecDepth 20000 in
theorem ta_X4_swapped : TabOk MIS T_X4_swapped mi_X4_swapped := ⟨by decide +kernel, fun l d ex hex p e R s m args below meth c cells slots ad D cI cZ A cx hR hA hr =>
  OkT.cons (ok_iload_n (kn := 0) rfl cx (by decide +kernel)) <|
  OkT.cons (ok_callS hex rfl ca_RX4_11 hR hA cx (by decide +kernel)) <|
  OkT.cons (ok_istore_n (kn := 1) rfl cx (by decide +kernel)) <|
  OkT.cons (ok_iload_n (kn := 1) rfl cx (by decide +kernel)) <|
  OkT.cons (ok_callS hex rfl ca_RX4_11 hR hA cx (by decide +kernel)) <|
  OkT.cons (ok_iload_n (kn := 0) rfl cx (by decide +kernel)) <|
  OkT.cons (ok_callS hex rfl ca_RX4_19 hR hA cx (by decide +kernel)) <|
  OkT.cons (ok_callS hex rfl ca_RX4_22 hR hA cx (by decide +kernel)) <|
  OkT.cons (ok_iload_n (kn := 1) rfl cx (by decide +kernel)) <|
  OkT.cons (ok_callS hex rfl ca_RX4_19 hR hA cx (by decide +kernel)) <|
  OkT.cons (ok_callS hex rfl ca_RX4_22 hR hA cx (by decide +kernel)) <|
  OkT.cons (ok_retI hr (by decide +kernel)) <|
  OkT.nil⟩
def T_X4_depth (ex : Ex) : Tb := [(0, pS (fPush (.int 0)) 1), (1, oIst 1 1), (2, oIld 0 1), (3, oIst 2 1), (4, oFg [0] (oIld 2 1)), (5, oIf_le 24), (8, oIld 1 1), (9, pS (fPush (.int 5)) 1), (10, oIc_ge 24), (13, oInc 1 1), (16, oIld 2 1), (17, oCallS ex 41 1), (20, oIst 2 1), (21, oGoto 4), (24, oFg [0, 2] (oIld 1 1)), (25, oRetI)]
set_option maxRecDepth 20000 in
theorem ta_X4_depth : TabOk MIS T_X4_depth mi_X4_depth := ⟨by decide +kernel, fun l d ex hex p e R s m args below meth c cells slots ad D cI cZ A cx hR hA hr =>
  OkT.cons (ok_iconst (n := 0) cx (by decide +kernel) rfl) <|
  OkT.cons (ok_istore_n (kn := 1) rfl cx (by decide +kernel)) <|
  OkT.cons (ok_iload_n (kn := 0) rfl cx (by decide +kernel)) <|
  OkT.cons (ok_istore_n (kn := 2) rfl cx (by decide +kernel)) <|
  OkT.cons (ok_fg [0] (ok_iload_n (kn := 2) rfl cx (by decide +kernel))) <|
  OkT.cons (ok_If_le (off := 19) (by decide) cx (by decide +kernel)) <|
  OkT.cons (ok_iload_n (kn := 1) rfl cx (by decide +kernel)) <|
  OkT.cons (ok_iconst (n := 5) cx (by decide +kernel) rfl) <|
  OkT.cons (ok_Ic_ge (off := 14) (by decide) cx (by decide +kernel)) <|
  OkT.cons (ok_iinc (n := 1) rfl cx (by decide +kernel)) <|
  OkT.cons (ok_iload_n (kn := 2) rfl cx (by decide +kernel)) <|
  OkT.cons (ok_callS hex rfl ca_RX4_11 hR hA cx (by decide +kernel)) <|
  OkT.cons (ok_istore_n (kn := 2) rfl cx (by decide +kernel)) <|
  OkT.cons (ok_goto (off := (-17)) (by decide) cx (by decide +kernel)) <|
  OkT.cons (ok_fg [0, 2] (ok_iload_n (kn := 1) rfl cx (by decide +kernel))) <|
  OkT.cons (ok_retI hr (by decide +kernel)) <|
  OkT.nil⟩
def T_X5_beNew (ex : Ex) : Tb := [(0, oAld 0 1), (1, pS (fPush (.int 0)) 1), (2, oPutI 3 6), (5, oAld 0 1), (6, pS (fPush (.int 0)) 1), (7, oPutI 3 7), (10, oAld 0 1), (11, pS (fPush (.int 0)) 1), (12, oPutI 3 8), (15, oAld 0 1), (16, pS (fPush (.int 1)) 1), (17, oPutI 3 9), (20, oAld 0 1), (21, pS (fPush (.int 1)) 1), (22, oPutI 3 10), (25, oAld 0 1), (26, pS (fPush (.int 4)) 1), (27, oPutI 3 11), (30, oAld 0 1), (31, oGetA 3 5), (34, pS (fPush (.int 0)) 1), (35, oCallS ex 205 2), (38, oRetV)]
set_option maxRecDepth 20000 in
theorem ta_X5_beNew : TabOk MIS T_X5_beNew mi_X5_beNew := ⟨by decide +kernel, fun l d ex hex p e R s m args below meth c cells slots ad D cI cZ A cx hR hA hr =>
  OkT.cons (ok_aload_n (kn := 0) rfl cx (by decide +kernel)) <|
  OkT.cons (ok_iconst (n := 0) cx (by decide +kernel) rfl) <|
  OkT.cons (ok_putI fp_RX5_40 (by decide) rfl cx (by decide +kernel)) <|
  OkT.cons (ok_aload_n (kn := 0) rfl cx (by decide +kernel)) <|
  OkT.cons (ok_iconst (n := 0) cx (by decide +kernel) rfl) <|
  OkT.cons (ok_putI fp_RX5_43 (by decide) rfl cx (by decide +kernel)) <|
  OkT.cons (ok_aload_n (kn := 0) rfl cx (by decide +kernel)) <|
  OkT.cons (ok_iconst (n := 0) cx (by decide +kernel) rfl) <|
  OkT.cons (ok_putI fp_RX5_46 (by decide) rfl cx (by decide +kernel)) <|
  OkT.cons (ok_aload_n (kn := 0) rfl cx (by decide +kernel)) <|
  OkT.cons (ok_iconst (n := 1) cx (by decide +kernel) rfl) <|
  OkT.cons (ok_putI fp_RX5_30 (by decide) rfl cx (by decide +kernel)) <|
  OkT.cons (ok_aload_n (kn := 0) rfl cx (by decide +kernel)) <|
  OkT.cons (ok_iconst (n := 1) cx (by decide +kernel) rfl) <|
  OkT.cons (ok_putI fp_RX5_34 (by decide) rfl cx (by decide +kernel)) <|
  OkT.cons (ok_aload_n (kn := 0) rfl cx (by decide +kernel)) <|
  OkT.cons (ok_iconst (n := 4) cx (by decide +kernel) rfl) <|
  OkT.cons (ok_putI fp_RX5_37 (by decide) rfl cx (by decide +kernel)) <|
  OkT.cons (ok_aload_n (kn := 0) rfl cx (by decide +kernel)) <|
  OkT.cons (ok_getA (k := 4) fg_RX5_24 (by decide) rfl cx (by decide +kernel)) <|
  OkT.cons (ok_iconst (n := 0) cx (by decide +kernel) rfl) <|
  OkT.cons (ok_callS hex rfl ca_RX5_49 hR hA cx (by decide +kernel)) <|
  OkT.cons (ok_retV hr (by decide +kernel)) <|
  OkT.nil⟩
def T_X5_addSpell (ex : Ex) : Tb := [(0, oAld 0 1), (1, oGetA 3 1), (4, oAld 0 1), (5, oGetI 3 6), (8, oIld 1 1), (9, oCallS ex 134 3), (12, oAld 0 1), (13, oGetA 3 2), (16, oAld 0 1), (17, oGetI 3 6), (20, oIld 2 1), (21, oCallS ex 134 3), (24, oAld 0 1), (25, oGetA 3 3), (28, oAld 0 1), (29, oGetI 3 6), (32, oIld 3 1), (33, oCallS ex 134 3), (36, oAld 0 1), (37, oGetA 3 4), (40, oAld 0 1), (41, oGetI 3 6), (44, oIld 4 2), (46, oCallS ex 134 3), (49, oAld 0 1), (50, pS fDup 1), (51, oGetI 3 6), (54, pS (fPush (.int 1)) 1), (55, pS (fB (fun x y => x + y)) 1), (56, oPutI 3 6), (59, oRetV)]
set_option maxRecDepth 20000 in
theorem ta_X5_addSpell : TabOk MIS T_X5_addSpell mi_X5_addSpell := ⟨by decide +kernel, fun l d ex hex p e R s m args below meth c cells slots ad D cI cZ A cx hR hA hr =>
  OkT.cons (ok_aload_n (kn := 0) rfl cx (by decide +kernel)) <|
  OkT.cons (ok_getA (k := 0) fg_RX5_9 (by decide) rfl cx (by decide +kernel)) <|
  OkT.cons (ok_aload_n (kn := 0) rfl cx (by decide +kernel)) <|
  OkT.cons (ok_getI fg_RX5_40 (by decide) rfl cx (by decide +kernel)) <|
  OkT.cons (ok_iload_n (kn := 1) rfl cx (by decide +kernel)) <|
  OkT.cons (ok_callN hex rfl ca_RX5_55 hR hA cx (by decide +kernel)) <|
  OkT.cons (ok_aload_n (kn := 0) rfl cx (by decide +kernel)) <|
  OkT.cons (ok_getA (k := 1) fg_RX5_15 (by decide) rfl cx (by decide +kernel)) <|
  OkT.cons (ok_aload_n (kn := 0) rfl cx (by decide +kernel)) <|
  OkT.cons (ok_getI fg_RX5_40 (by decide) rfl cx (by decide +kernel)) <|
  OkT.cons (ok_iload_n (kn := 2) rfl cx (by decide +kernel)) <|
  OkT.cons (ok_callN hex rfl ca_RX5_55 hR hA cx (by decide +kernel)) <|
  OkT.cons (ok_aload_n (kn := 0) rfl cx (by decide +kernel)) <|
  OkT.cons (ok_getA (k := 2) fg_RX5_18 (by decide) rfl cx (by decide +kernel)) <|
  OkT.cons (ok_aload_n (kn := 0) rfl cx (by decide +kernel)) <|
  OkT.cons (ok_getI fg_RX5_40 (by decide) rfl cx (by decide +kernel)) <|
  OkT.cons (ok_iload_n (kn := 3) rfl cx (by decide +kernel)) <|
  OkT.cons (ok_callN hex rfl ca_RX5_55 hR hA cx (by decide +kernel)) <|
  OkT.cons (ok_aload_n (kn := 0) rfl cx (by decide +kernel)) <|
  OkT.cons (ok_getA (k := 3) fg_RX5_21 (by decide) rfl cx (by decide +kernel)) <|
  OkT.cons (ok_aload_n (kn := 0) rfl cx (by decide +kernel)) <|
  OkT.cons (ok_getI fg_RX5_40 (by decide) rfl cx (by decide +kernel)) <|
  OkT.cons (ok_iload cx (by decide +kernel)) <|
  OkT.cons (ok_callN hex rfl ca_RX5_55 hR hA cx (by decide +kernel)) <|
  OkT.cons (ok_aload_n (kn := 0) rfl cx (by decide +kernel)) <|
  OkT.cons (ok_dup cx (by decide +kernel)) <|
  OkT.cons (ok_getI fg_RX5_40 (by decide) rfl cx (by decide +kernel)) <|
  OkT.cons (ok_iconst (n := 1) cx (by decide +kernel) rfl) <|
  OkT.cons (ok_iadd cx (by decide +kernel)) <|
  OkT.cons (ok_putI fp_RX5_40 (by decide) rfl cx (by decide +kernel)) <|
  OkT.cons (ok_retV hr (by decide +kernel)) <|
  OkT.nil⟩
def T_X5_addThing (ex : Ex) : Tb := [(0, oAld 0 1), (1, oGetA 3 5), (4, oAld 0 1), (5, oGetI 3 7), (8, oIld 1 1), (9, oCallS ex 134 3), (12, oAld 0 1), (13, pS fDup 1), (14, oGetI 3 7), (17, pS (fPush (.int 1)) 1), (18, pS (fB (fun x y => x + y)) 1), (19, oPutI 3 7), (22, oRetV)]
set_option maxRecDepth 20000 in
theorem ta_X5_addThing : TabOk MIS T_X5_addThing mi_X5_addThing := ⟨by decide +kernel, fun l d ex hex p e R s m args below meth c cells slots ad D cI cZ A cx hR hA hr =>
  OkT.cons (ok_aload_n (kn := 0) rfl cx (by decide +kernel)) <|
  OkT.cons (ok_getA (k := 4) fg_RX5_24 (by decide) rfl cx (by decide +kernel)) <|
  OkT.cons (ok_aload_n (kn := 0) rfl cx (by decide +kernel)) <|
  OkT.cons (ok_getI fg_RX5_43 (by decide) rfl cx (by decide +kernel)) <|
  OkT.cons (ok_iload_n (kn := 1) rfl cx (by decide +kernel)) <|
  OkT.cons (ok_callN hex rfl ca_RX5_55 hR hA cx (by decide +kernel)) <|
  OkT.cons (ok_aload_n (kn := 0) rfl cx (by decide +kernel)) <|
  OkT.cons (ok_dup cx (by decide +kernel)) <|
  OkT.cons (ok_getI fg_RX5_43 (by decide) rfl cx (by decide +kernel)) <|
  OkT.cons (ok_iconst (n := 1) cx (by decide +kernel) rfl) <|
  OkT.cons (ok_iadd cx (by decide +kernel)) <|
  OkT.cons (ok_putI fp_RX5_43 (by decide) rfl cx (by decide +kernel)) <|
  OkT.cons (ok_retV hr (by decide +kernel)) <|
  OkT.nil⟩
def T_X5_addPupil (ex : Ex) : Tb := [(0, oAld 0 1), (1, oGetA 3 6), (4, oAld 0 1), (5, oGetI 3 8), (8, oIld 1 1), (9, oCallS ex 134 3), (12, oAld 0 1), (13, pS fDup 1), (14, oGetI 3 8), (17, pS (fPush (.int 1)) 1), (18, pS (fB (fun x y => x + y)) 1), (19, oPutI 3 8), (22, oRetV)]
set_option maxRecDepth 20000 in
theorem ta_X5_addPupil : TabOk MIS T_X5_addPupil mi_X5_addPupil := ⟨by decide +kernel, fun l d ex hex p e R s m args below meth c cells slots ad D cI cZ A cx hR hA hr =>
  OkT.cons (ok_aload_n (kn := 0) rfl cx (by decide +kernel)) <|
  OkT.cons (ok_getA (k := 5) fg_RX5_27 (by decide) rfl cx (by decide +kernel)) <|
  OkT.cons (ok_aload_n (kn := 0) rfl cx (by decide +kernel)) <|
  OkT.cons (ok_getI fg_RX5_46 (by decide) rfl cx (by decide +kernel)) <|
  OkT.cons (ok_iload_n (kn := 1) rfl cx (by decide +kernel)) <|
  OkT.cons (ok_callN hex rfl ca_RX5_55 hR hA cx (by decide +kernel)) <|
  OkT.cons (ok_aload_n (kn := 0) rfl cx (by decide +kernel)) <|
  OkT.cons (ok_dup cx (by decide +kernel)) <|
  OkT.cons (ok_getI fg_RX5_46 (by decide) rfl cx (by decide +kernel)) <|
  OkT.cons (ok_iconst (n := 1) cx (by decide +kernel) rfl) <|
  OkT.cons (ok_iadd cx (by decide +kernel)) <|
  OkT.cons (ok_putI fp_RX5_46 (by decide) rfl cx (by decide +kernel)) <|
  OkT.cons (ok_retV hr (by decide +kernel)) <|
  OkT.nil⟩
def T_X5_setSwapCost (ex : Ex) : Tb := [(0, oAld 0 1), (1, oIld 1 1), (2, oPutI 3 9), (5, oRetV)]
set_option maxRecDepth 20000 in
theorem ta_X5_setSwapCost : TabOk MIS T_X5_setSwapCost mi_X5_setSwapCost := ⟨by decide +kernel, fun l d ex hex p e R s m args below meth c cells slots ad D cI cZ A cx hR hA hr =>
  OkT.cons (ok_aload_n (kn := 0) rfl cx (by decide +kernel)) <|
  OkT.cons (ok_iload_n (kn := 1) rfl cx (by decide +kernel)) <|
  OkT.cons (ok_putI fp_RX5_30 (by decide) rfl cx (by decide +kernel)) <|
  OkT.cons (ok_retV hr (by decide +kernel)) <|
  OkT.nil⟩
def T_X5_setCopyCost (ex : Ex) : Tb := [(0, oAld 0 1), (1, oIld 1 1), (2, oPutI 3 10), (5, oRetV)]
set_option maxRecDepth 20000 in
theorem ta_X5_setCopyCost : TabOk MIS T_X5_setCopyCost mi_X5_setCopyCost := ⟨by decide +kernel, fun l d ex hex p e R s m args below meth c cells slots ad D cI cZ A cx hR hA hr =>
  OkT.cons (ok_aload_n (kn := 0) rfl cx (by decide +kernel)) <|
  OkT.cons (ok_iload_n (kn := 1) rfl cx (by decide +kernel)) <|
  OkT.cons (ok_putI fp_RX5_34 (by decide) rfl cx (by decide +kernel)) <|
  OkT.cons (ok_retV hr (by decide +kernel)) <|
  OkT.nil⟩
def T_X5_setHumDepth (ex : Ex) : Tb := [(0, oAld 0 1), (1, oIld 1 1), (2, oPutI 3 11), (5, oRetV)]
set_option maxRecDepth 20000 in
theorem ta_X5_setHumDepth : TabOk MIS T_X5_setHumDepth mi_X5_setHumDepth := ⟨by decide +kernel, fun l d ex hex p e R s m args below meth c cells slots ad D cI cZ A cx hR hA hr =>
  OkT.cons (ok_aload_n (kn := 0) rfl cx (by decide +kernel)) <|
  OkT.cons (ok_iload_n (kn := 1) rfl cx (by decide +kernel)) <|
  OkT.cons (ok_putI fp_RX5_37 (by decide) rfl cx (by decide +kernel)) <|
  OkT.cons (ok_retV hr (by decide +kernel)) <|
  OkT.nil⟩
def T_X5_spells (ex : Ex) : Tb := [(0, oAld 0 1), (1, oGetI 3 6), (4, oRetI)]
set_option maxRecDepth 20000 in
theorem ta_X5_spells : TabOk MIS T_X5_spells mi_X5_spells := ⟨by decide +kernel, fun l d ex hex p e R s m args below meth c cells slots ad D cI cZ A cx hR hA hr =>
  OkT.cons (ok_aload_n (kn := 0) rfl cx (by decide +kernel)) <|
  OkT.cons (ok_getI fg_RX5_40 (by decide) rfl cx (by decide +kernel)) <|
  OkT.cons (ok_retI hr (by decide +kernel)) <|
  OkT.nil⟩
def T_X5_things (ex : Ex) : Tb := [(0, oAld 0 1), (1, oGetI 3 7), (4, oRetI)]
set_option maxRecDepth 20000 in
theorem ta_X5_things : TabOk MIS T_X5_things mi_X5_things := ⟨by decide +kernel, fun l d ex hex p e R s m args below meth c cells slots ad D cI cZ A cx hR hA hr =>
  OkT.cons (ok_aload_n (kn := 0) rfl cx (by decide +kernel)) <|
  OkT.cons (ok_getI fg_RX5_43 (by decide) rfl cx (by decide +kernel)) <|
  OkT.cons (ok_retI hr (by decide +kernel)) <|
  OkT.nil⟩
def T_X5_pupils (ex : Ex) : Tb := [(0, oAld 0 1), (1, oGetI 3 8), (4, oRetI)]
set_option maxRecDepth 20000 in
theorem ta_X5_pupils : TabOk MIS T_X5_pupils mi_X5_pupils := ⟨by decide +kernel, fun l d ex hex p e R s m args below meth c cells slots ad D cI cZ A cx hR hA hr =>
  OkT.cons (ok_aload_n (kn := 0) rfl cx (by decide +kernel)) <|
  OkT.cons (ok_getI fg_RX5_46 (by decide) rfl cx (by decide +kernel)) <|
  OkT.cons (ok_retI hr (by decide +kernel)) <|
  OkT.nil⟩
def T_X5_costOfSwap (ex : Ex) : Tb := [(0, oAld 0 1), (1, oGetI 3 9), (4, oRetI)]
set_option maxRecDepth 20000 in
theorem ta_X5_costOfSwap : TabOk MIS T_X5_costOfSwap mi_X5_costOfSwap := ⟨by decide +kernel, fun l d ex hex p e R s m args below meth c cells slots ad D cI cZ A cx hR hA hr =>
  OkT.cons (ok_aload_n (kn := 0) rfl cx (by decide +kernel)) <|
  OkT.cons (ok_getI fg_RX5_30 (by decide) rfl cx (by decide +kernel)) <|
  OkT.cons (ok_retI hr (by decide +kernel)) <|
  OkT.nil⟩
def T_X5_costOfCopy (ex : Ex) : Tb := [(0, oAld 0 1), (1, oGetI 3 10), (4, oRetI)]
set_option maxRecDepth 20000 in
theorem ta_X5_costOfCopy : TabOk MIS T_X5_costOfCopy mi_X5_costOfCopy := ⟨by decide +kernel, fun l d ex hex p e R s m args below meth c cells slots ad D cI cZ A cx hR hA hr =>
  OkT.cons (ok_aload_n (kn := 0) rfl cx (by decide +kernel)) <|
  OkT.cons (ok_getI fg_RX5_34 (by decide) rfl cx (by decide +kernel)) <|
  OkT.cons (ok_retI hr (by decide +kernel)) <|
  OkT.nil⟩
def T_X5_humsFrom (ex : Ex) : Tb := [(0, oAld 0 1), (1, oGetI 3 11), (4, oRetI)]
set_option maxRecDepth 20000 in
theorem ta_X5_humsFrom : TabOk MIS T_X5_humsFrom mi_X5_humsFrom := ⟨by decide +kernel, fun l d ex hex p e R s m args below meth c cells slots ad D cI cZ A cx hR hA hr =>
  OkT.cons (ok_aload_n (kn := 0) rfl cx (by decide +kernel)) <|
  OkT.cons (ok_getI fg_RX5_37 (by decide) rfl cx (by decide +kernel)) <|
  OkT.cons (ok_retI hr (by decide +kernel)) <|
  OkT.nil⟩
def T_X5_isSpell (ex : Ex) : Tb := [(0, oIld 1 1), (1, oIf_lt 16), (4, oIld 1 1), (5, oAld 0 1), (6, oGetI 3 6), (9, oIc_ge 16), (12, pS (fPush (.int 1)) 1), (13, oGoto 17), (16, oFg [0, 1] (pS (fPush (.int 0)) 1)), (17, oFg [0, 1] (oRetZ))]
set_option maxRecDepth 20000 in
theorem ta_X5_isSpell : TabOk MIS T_X5_isSpell mi_X5_isSpell := ⟨by decide +kernel, fun l d ex hex p e R s m args below meth c cells slots ad D cI cZ A cx hR hA hr =>
  OkT.cons (ok_iload_n (kn := 1) rfl cx (by decide +kernel)) <|
  OkT.cons (ok_If_lt (off := 15) (by decide) cx (by decide +kernel)) <|
  OkT.cons (ok_iload_n (kn := 1) rfl cx (by decide +kernel)) <|
  OkT.cons (ok_aload_n (kn := 0) rfl cx (by decide +kernel)) <|
  OkT.cons (ok_getI fg_RX5_40 (by decide) rfl cx (by decide +kernel)) <|
  OkT.cons (ok_Ic_ge (off := 7) (by decide) cx (by decide +kernel)) <|
  OkT.cons (ok_iconst (n := 1) cx (by decide +kernel) rfl) <|
  OkT.cons (ok_goto (off := 4) (by decide) cx (by decide +kernel)) <|
  OkT.cons (ok_fg [0, 1] (ok_iconst (n := 0) cx (by decide +kernel) rfl)) <|
  OkT.cons (ok_fg [0, 1] (ok_retZ hr (by decide +kernel))) <|
  OkT.nil⟩
def T_X5_isThing (ex : Ex) : Tb := [(0, oIld 1 1), (1, oIf_lt 16), (4, oIld 1 1), (5, oAld 0 1), (6, oGetI 3 7), (9, oIc_ge 16), (12, pS (fPush (.int 1)) 1), (13, oGoto 17), (16, oFg [0, 1] (pS (fPush (.int 0)) 1)), (17, oFg [0, 1] (oRetZ))]
set_option maxRecDepth 20000 in
theorem ta_X5_isThing : TabOk MIS T_X5_isThing mi_X5_isThing := ⟨by decide +kernel, fun l d ex hex p e R s m args below meth c cells slots ad D cI cZ A cx hR hA hr =>
  OkT.cons (ok_iload_n (kn := 1) rfl cx (by decide +kernel)) <|
  OkT.cons (ok_If_lt (off := 15) (by decide) cx (by decide +kernel)) <|
  OkT.cons (ok_iload_n (kn := 1) rfl cx (by decide +kernel)) <|
  OkT.cons (ok_aload_n (kn := 0) rfl cx (by decide +kernel)) <|
  OkT.cons (ok_getI fg_RX5_43 (by decide) rfl cx (by decide +kernel)) <|
  OkT.cons (ok_Ic_ge (off := 7) (by decide) cx (by decide +kernel)) <|
  OkT.cons (ok_iconst (n := 1) cx (by decide +kernel) rfl) <|
  OkT.cons (ok_goto (off := 4) (by decide) cx (by decide +kernel)) <|
  OkT.cons (ok_fg [0, 1] (ok_iconst (n := 0) cx (by decide +kernel) rfl)) <|
  OkT.cons (ok_fg [0, 1] (ok_retZ hr (by decide +kernel))) <|
  OkT.nil⟩
def T_X5_isPupil (ex : Ex) : Tb := [(0, oIld 1 1), (1, oIf_lt 16), (4, oIld 1 1), (5, oAld 0 1), (6, oGetI 3 8), (9, oIc_ge 16), (12, pS (fPush (.int 1)) 1), (13, oGoto 17), (16, oFg [0, 1] (pS (fPush (.int 0)) 1)), (17, oFg [0, 1] (oRetZ))]
set_option maxRecDepth 20000 in
theorem ta_X5_isPupil : TabOk MIS T_X5_isPupil mi_X5_isPupil := ⟨by decide +kernel, fun l d ex hex p e R s m args below meth c cells slots ad D cI cZ A cx hR hA hr =>
  OkT.cons (ok_iload_n (kn := 1) rfl cx (by decide +kernel)) <|
  OkT.cons (ok_If_lt (off := 15) (by decide) cx (by decide +kernel)) <|
  OkT.cons (ok_iload_n (kn := 1) rfl cx (by decide +kernel)) <|
  OkT.cons (ok_aload_n (kn := 0) rfl cx (by decide +kernel)) <|
  OkT.cons (ok_getI fg_RX5_46 (by decide) rfl cx (by decide +kernel)) <|
  OkT.cons (ok_Ic_ge (off := 7) (by decide) cx (by decide +kernel)) <|
  OkT.cons (ok_iconst (n := 1) cx (by decide +kernel) rfl) <|
  OkT.cons (ok_goto (off := 4) (by decide) cx (by decide +kernel)) <|
  OkT.cons (ok_fg [0, 1] (ok_iconst (n := 0) cx (by decide +kernel) rfl)) <|
  OkT.cons (ok_fg [0, 1] (ok_retZ hr (by decide +kernel))) <|
  OkT.nil⟩
def T_X5_isPupilSet (ex : Ex) : Tb := [(0, oIld 1 1), (1, oIf_lt 18), (4, oIld 1 1), (5, pS (fPush (.int 1)) 1), (6, oAld 0 1), (7, oGetI 3 8), (10, pS (fB (fun x y => x <<< (y &&& 31))) 1), (11, oIc_ge 18), (14, pS (fPush (.int 1)) 1), (15, oGoto 19), (18, oFg [0, 1] (pS (fPush (.int 0)) 1)), (19, oFg [0, 1] (oRetZ))]
set_option maxRecDepth 20000 in
theorem ta_X5_isPupilSet : TabOk MIS T_X5_isPupilSet mi_X5_isPupilSet := ⟨by decide +kernel, fun l d ex hex p e R s m args below meth c cells slots ad D cI cZ A cx hR hA hr =>
  OkT.cons (ok_iload_n (kn := 1) rfl cx (by decide +kernel)) <|
  OkT.cons (ok_If_lt (off := 17) (by decide) cx (by decide +kernel)) <|
  OkT.cons (ok_iload_n (kn := 1) rfl cx (by decide +kernel)) <|
  OkT.cons (ok_iconst (n := 1) cx (by decide +kernel) rfl) <|
  OkT.cons (ok_aload_n (kn := 0) rfl cx (by decide +kernel)) <|
  OkT.cons (ok_getI fg_RX5_46 (by decide) rfl cx (by decide +kernel)) <|
  OkT.cons (ok_ishl cx (by decide +kernel)) <|
  OkT.cons (ok_Ic_ge (off := 7) (by decide) cx (by decide +kernel)) <|
  OkT.cons (ok_iconst (n := 1) cx (by decide +kernel) rfl) <|
  OkT.cons (ok_goto (off := 4) (by decide) cx (by decide +kernel)) <|
  OkT.cons (ok_fg [0, 1] (ok_iconst (n := 0) cx (by decide +kernel) rfl)) <|
  OkT.cons (ok_fg [0, 1] (ok_retZ hr (by decide +kernel))) <|
  OkT.nil⟩
def T_X5_effectOf (ex : Ex) : Tb := [(0, oAld 0 1), (1, oGetA 3 1), (4, oIld 1 1), (5, oCallS ex 133 2), (8, oRetI)]
set_option maxRecDepth 20000 in
theorem ta_X5_effectOf : TabOk MIS T_X5_effectOf mi_X5_effectOf := ⟨by decide +kernel, fun l d ex hex p e R s m args below meth c cells slots ad D cI cZ A cx hR hA hr =>
  OkT.cons (ok_aload_n (kn := 0) rfl cx (by decide +kernel)) <|
  OkT.cons (ok_getA (k := 0) fg_RX5_9 (by decide) rfl cx (by decide +kernel)) <|
  OkT.cons (ok_iload_n (kn := 1) rfl cx (by decide +kernel)) <|
  OkT.cons (ok_callN hex rfl ca_RX5_59 hR hA cx (by decide +kernel)) <|
  OkT.cons (ok_retI hr (by decide +kernel)) <|
  OkT.nil⟩
def T_X5_isGlass (ex : Ex) : Tb := [(0, oAld 0 1), (1, oGetA 3 2), (4, oIld 1 1), (5, oCallS ex 133 2), (8, pS (fPush (.int 1)) 1), (9, oIc_ne 16), (12, pS (fPush (.int 1)) 1), (13, oGoto 17), (16, oFg [0, 1] (pS (fPush (.int 0)) 1)), (17, oFg [0, 1] (oRetZ))]
set_option maxRecDepth 20000 in
theorem ta_X5_isGlass : TabOk MIS T_X5_isGlass mi_X5_isGlass := ⟨by decide +kernel, fun l d ex hex p e R s m args below meth c cells slots ad D cI cZ A cx hR hA hr =>
  OkT.cons (ok_aload_n (kn := 0) rfl cx (by decide +kernel)) <|
  OkT.cons (ok_getA (k := 1) fg_RX5_15 (by decide) rfl cx (by decide +kernel)) <|
  OkT.cons (ok_iload_n (kn := 1) rfl cx (by decide +kernel)) <|
  OkT.cons (ok_callN hex rfl ca_RX5_59 hR hA cx (by decide +kernel)) <|
  OkT.cons (ok_iconst (n := 1) cx (by decide +kernel) rfl) <|
  OkT.cons (ok_Ic_ne (off := 7) (by decide) cx (by decide +kernel)) <|
  OkT.cons (ok_iconst (n := 1) cx (by decide +kernel) rfl) <|
  OkT.cons (ok_goto (off := 4) (by decide) cx (by decide +kernel)) <|
  OkT.cons (ok_fg [0, 1] (ok_iconst (n := 0) cx (by decide +kernel) rfl)) <|
  OkT.cons (ok_fg [0, 1] (ok_retZ hr (by decide +kernel))) <|
  OkT.nil⟩
def T_X5_layCost (ex : Ex) : Tb := [(0, oAld 0 1), (1, oGetA 3 3), (4, oIld 1 1), (5, oCallS ex 133 2), (8, oRetI)]
set_option maxRecDepth 20000 in
theorem ta_X5_layCost : TabOk MIS T_X5_layCost mi_X5_layCost := ⟨by decide +kernel, fun l d ex hex p e R s m args below meth c cells slots ad D cI cZ A cx hR hA hr =>
  OkT.cons (ok_aload_n (kn := 0) rfl cx (by decide +kernel)) <|
  OkT.cons (ok_getA (k := 2) fg_RX5_18 (by decide) rfl cx (by decide +kernel)) <|
  OkT.cons (ok_iload_n (kn := 1) rfl cx (by decide +kernel)) <|
  OkT.cons (ok_callN hex rfl ca_RX5_59 hR hA cx (by decide +kernel)) <|
  OkT.cons (ok_retI hr (by decide +kernel)) <|
  OkT.nil⟩
def T_X5_liftCost (ex : Ex) : Tb := [(0, oAld 0 1), (1, oGetA 3 4), (4, oIld 1 1), (5, oCallS ex 133 2), (8, oRetI)]
set_option maxRecDepth 20000 in
theorem ta_X5_liftCost : TabOk MIS T_X5_liftCost mi_X5_liftCost := ⟨by decide +kernel, fun l d ex hex p e R s m args below meth c cells slots ad D cI cZ A cx hR hA hr =>
  OkT.cons (ok_aload_n (kn := 0) rfl cx (by decide +kernel)) <|
  OkT.cons (ok_getA (k := 3) fg_RX5_21 (by decide) rfl cx (by decide +kernel)) <|
  OkT.cons (ok_iload_n (kn := 1) rfl cx (by decide +kernel)) <|
  OkT.cons (ok_callN hex rfl ca_RX5_59 hR hA cx (by decide +kernel)) <|
  OkT.cons (ok_retI hr (by decide +kernel)) <|
  OkT.nil⟩
def T_X5_firstRow (ex : Ex) : Tb := [(0, oAld 0 1), (1, oGetA 3 5), (4, oIld 1 1), (5, oCallS ex 133 2), (8, oRetI)]
set_option maxRecDepth 20000 in
theorem ta_X5_firstRow : TabOk MIS T_X5_firstRow mi_X5_firstRow := ⟨by decide +kernel, fun l d ex hex p e R s m args below meth c cells slots ad D cI cZ A cx hR hA hr =>
  OkT.cons (ok_aload_n (kn := 0) rfl cx (by decide +kernel)) <|
  OkT.cons (ok_getA (k := 4) fg_RX5_24 (by decide) rfl cx (by decide +kernel)) <|
  OkT.cons (ok_iload_n (kn := 1) rfl cx (by decide +kernel)) <|
  OkT.cons (ok_callN hex rfl ca_RX5_59 hR hA cx (by decide +kernel)) <|
  OkT.cons (ok_retI hr (by decide +kernel)) <|
  OkT.nil⟩

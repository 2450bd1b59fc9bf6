/-! the tables of the methods and that they are right (printed by a program) -/
def T_X8_undo (ex : Ex) : Tb := [(0, oAld 0 1), (1, oGetA 6 4), (4, oCallV ex 96 0 5), (7, oIf_eq 20), (10, oAld 0 1), (11, oGetA 6 4), (14, oCallV ex 94 0 5), (17, oGoto 22), (20, oFg [0] (pS (fPush (.int (-2))) 2)), (22, oFg [0] (oRetI))]
set_option maxRecDepth 20000 in
theorem ta_X8_undo : TabOk MIS T_X8_undo mi_X8_undo := ⟨by decide +kernel, fun l d ex hex p e R s m args below meth c cells slots ad D cI cZ A cx hR hA hr =>
  OkT.cons (ok_aload_n (kn := 0) rfl cx (by decide +kernel)) <|
  OkT.cons (ok_getA (k := 1) fg_RX8_19 (by decide) rfl cx (by decide +kernel)) <|
  OkT.cons (ok_callV hex rfl rfl (by decide) ca_RX8_150 hR hA cx (by decide +kernel)) <|
  OkT.cons (ok_If_eq (off := 13) (by decide) cx (by decide +kernel)) <|
  OkT.cons (ok_aload_n (kn := 0) rfl cx (by decide +kernel)) <|
  OkT.cons (ok_getA (k := 1) fg_RX8_19 (by decide) rfl cx (by decide +kernel)) <|
  OkT.cons (ok_callV hex rfl rfl (by decide) ca_RX8_154 hR hA cx (by decide +kernel)) <|
  OkT.cons (ok_goto (off := 5) (by decide) cx (by decide +kernel)) <|
  OkT.cons (ok_fg [0] (ok_bipush (n := (-2)) cx (by decide +kernel) rfl)) <|
  OkT.cons (ok_fg [0] (ok_retI hr (by decide +kernel))) <|
  OkT.nil⟩
def T_X8_now (ex : Ex) : Tb := [(0, oIld 1 1), (1, oTsw [(0, 32), (1, 40), (2, 52), (3, 60)] 68), (32, oFg [1] (oAld 0 1)), (33, oGetA 6 4), (36, oCallV ex 93 0 5), (39, oRetI), (40, oFg [1] (oAld 0 1)), (41, oGetA 6 4), (44, oAld 0 1), (45, oGetD 6 5), (48, oCallV ex 97 1 5), (51, oRetI), (52, oFg [1] (oAld 0 1)), (53, oGetA 6 4), (56, oCallV ex 98 0 5), (59, oRetI), (60, oFg [1] (oAld 0 1)), (61, oGetA 6 4), (64, oCallV ex 94 0 5), (67, oRetI), (68, oFg [0, 1] (pS (fPush (.int (-1))) 1)), (69, oRetI)]
set_option maxRecDepth 20000 in
theorem ta_X8_now : TabOk MIS T_X8_now mi_X8_now := ⟨by decide +kernel, fun l d ex hex p e R s m args below meth c cells slots ad D cI cZ A cx hR hA hr =>
  OkT.cons (ok_iload_n (kn := 1) rfl cx (by decide +kernel)) <|
  OkT.cons (ok_tsw (dflt := 67) (lo := 0) (hi := 3) (offs := #[31, 39, 51, 59]) (len := 31) (by decide +kernel) cx (by decide +kernel)) <|
  OkT.cons (ok_fg [1] (ok_aload_n (kn := 0) rfl cx (by decide +kernel))) <|
  OkT.cons (ok_getA (k := 1) fg_RX8_19 (by decide) rfl cx (by decide +kernel)) <|
  OkT.cons (ok_callV hex rfl rfl (by decide) ca_RX8_157 hR hA cx (by decide +kernel)) <|
  OkT.cons (ok_retI hr (by decide +kernel)) <|
  OkT.cons (ok_fg [1] (ok_aload_n (kn := 0) rfl cx (by decide +kernel))) <|
  OkT.cons (ok_getA (k := 1) fg_RX8_19 (by decide) rfl cx (by decide +kernel)) <|
  OkT.cons (ok_aload_n (kn := 0) rfl cx (by decide +kernel)) <|
  OkT.cons (ok_getD fg_RX8_47 (by decide) rfl cx (by decide +kernel)) <|
  OkT.cons (ok_callV hex rfl rfl (by decide) ca_RX8_160 hR hA cx (by decide +kernel)) <|
  OkT.cons (ok_retI hr (by decide +kernel)) <|
  OkT.cons (ok_fg [1] (ok_aload_n (kn := 0) rfl cx (by decide +kernel))) <|
  OkT.cons (ok_getA (k := 1) fg_RX8_19 (by decide) rfl cx (by decide +kernel)) <|
  OkT.cons (ok_callV hex rfl rfl (by decide) ca_RX8_163 hR hA cx (by decide +kernel)) <|
  OkT.cons (ok_retI hr (by decide +kernel)) <|
  OkT.cons (ok_fg [1] (ok_aload_n (kn := 0) rfl cx (by decide +kernel))) <|
  OkT.cons (ok_getA (k := 1) fg_RX8_19 (by decide) rfl cx (by decide +kernel)) <|
  OkT.cons (ok_callV hex rfl rfl (by decide) ca_RX8_154 hR hA cx (by decide +kernel)) <|
  OkT.cons (ok_retI hr (by decide +kernel)) <|
  OkT.cons (ok_fg [0, 1] (ok_iconst (n := (-1)) cx (by decide +kernel) rfl)) <|
  OkT.cons (ok_retI hr (by decide +kernel)) <|
  OkT.nil⟩
def T_X8_cheapest (ex : Ex) : Tb := [(0, oAld 0 1), (1, oGetD 6 5), (4, oIld 1 1), (5, oCallV ex 60 1 3), (8, oIf_eq 37), (11, oIld 2 1), (12, oCallS ex 130 1), (15, oIf_eq 37), (18, oAld 0 1), (19, oGetD 6 5), (22, oIld 3 1), (23, oCallV ex 62 1 3), (26, oIf_eq 37), (29, oIld 4 2), (31, oCallS ex 131 1), (34, oIf_ne 39), (37, oFg [0, 1, 2, 3, 4, 5, 6] (pS (fPush (.int (-1))) 1)), (38, oRetI), (39, oFg [5, 6] (oAld 0 1)), (40, oGetA 6 4), (43, oIld 1 1), (44, oCallV ex 92 1 5), (47, oIst 5 2), (49, oAld 0 1), (50, oGetD 6 5), (53, oIld 5 2), (55, oIld 2 1), (56, oAld 0 1), (57, oGetD 6 5), (60, oIld 3 1), (61, oCallV ex 69 1 3), (64, oCallV ex 78 3 3), (67, oIf_ne 73), (70, pS (fPush (.int (-9))) 2), (72, oRetI), (73, oFg [1, 6] (oAld 0 1)), (74, oGetA 6 11), (77, oAld 0 1), (78, oGetD 6 5), (81, oIld 5 2), (83, oIld 2 1), (84, oIld 3 1), (85, oCallV ex 83 4 4), (88, oIst 6 2), (90, oIld 6 2), (92, pS (fPush (.int 1073741824)) 2), (94, oIc_ne 100), (97, pS (fPush (.int (-9))) 2), (99, oRetI), (100, oFg [0, 1, 2, 3, 5] (oIld 4 2)), (102, oIf_ne 113), (105, oIld 6 2), (107, oCallS ex 81 1), (110, oGoto 118), (113, oFg [0, 1, 2, 3, 4, 5] (oIld 6 2)), (115, oCallS ex 82 1), (118, oFg [0, 1, 2, 3, 4, 5, 6] (oRetI))]
set_option maxRecDepth 20000 in
theorem ta_X8_cheapest : TabOk MIS T_X8_cheapest mi_X8_cheapest := ⟨by decide +kernel, fun l d ex hex p e R s m args below meth c cells slots ad D cI cZ A cx hR hA hr =>
  OkT.cons (ok_aload_n (kn := 0) rfl cx (by decide +kernel)) <|
  OkT.cons (ok_getD fg_RX8_47 (by decide) rfl cx (by decide +kernel)) <|
  OkT.cons (ok_iload_n (kn := 1) rfl cx (by decide +kernel)) <|
  OkT.cons (ok_callV hex rfl rfl (by decide) ca_RX8_96 hR hA cx (by decide +kernel)) <|
  OkT.cons (ok_If_eq (off := 29) (by decide) cx (by decide +kernel)) <|
  OkT.cons (ok_iload_n (kn := 2) rfl cx (by decide +kernel)) <|
  OkT.cons (ok_callS hex rfl ca_RX8_166 hR hA cx (by decide +kernel)) <|
  OkT.cons (ok_If_eq (off := 22) (by decide) cx (by decide +kernel)) <|
  OkT.cons (ok_aload_n (kn := 0) rfl cx (by decide +kernel)) <|
  OkT.cons (ok_getD fg_RX8_47 (by decide) rfl cx (by decide +kernel)) <|
  OkT.cons (ok_iload_n (kn := 3) rfl cx (by decide +kernel)) <|
  OkT.cons (ok_callV hex rfl rfl (by decide) ca_RX8_169 hR hA cx (by decide +kernel)) <|
  OkT.cons (ok_If_eq (off := 11) (by decide) cx (by decide +kernel)) <|
  OkT.cons (ok_iload cx (by decide +kernel)) <|
  OkT.cons (ok_callS hex rfl ca_RX8_172 hR hA cx (by decide +kernel)) <|
  OkT.cons (ok_If_ne (off := 5) (by decide) cx (by decide +kernel)) <|
  OkT.cons (ok_fg [0, 1, 2, 3, 4, 5, 6] (ok_iconst (n := (-1)) cx (by decide +kernel) rfl)) <|
  OkT.cons (ok_retI hr (by decide +kernel)) <|
  OkT.cons (ok_fg [5, 6] (ok_aload_n (kn := 0) rfl cx (by decide +kernel))) <|
  OkT.cons (ok_getA (k := 1) fg_RX8_19 (by decide) rfl cx (by decide +kernel)) <|
  OkT.cons (ok_iload_n (kn := 1) rfl cx (by decide +kernel)) <|
  OkT.cons (ok_callV hex rfl rfl (by decide) ca_RX8_99 hR hA cx (by decide +kernel)) <|
  OkT.cons (ok_istore cx (by decide +kernel)) <|
  OkT.cons (ok_aload_n (kn := 0) rfl cx (by decide +kernel)) <|
  OkT.cons (ok_getD fg_RX8_47 (by decide) rfl cx (by decide +kernel)) <|
  OkT.cons (ok_iload cx (by decide +kernel)) <|
  OkT.cons (ok_iload_n (kn := 2) rfl cx (by decide +kernel)) <|
  OkT.cons (ok_aload_n (kn := 0) rfl cx (by decide +kernel)) <|
  OkT.cons (ok_getD fg_RX8_47 (by decide) rfl cx (by decide +kernel)) <|
  OkT.cons (ok_iload_n (kn := 3) rfl cx (by decide +kernel)) <|
  OkT.cons (ok_callV hex rfl rfl (by decide) ca_RX8_175 hR hA cx (by decide +kernel)) <|
  OkT.cons (ok_callV hex rfl rfl (by decide) ca_RX8_178 hR hA cx (by decide +kernel)) <|
  OkT.cons (ok_If_ne (off := 6) (by decide) cx (by decide +kernel)) <|
  OkT.cons (ok_bipush (n := (-9)) cx (by decide +kernel) rfl) <|
  OkT.cons (ok_retI hr (by decide +kernel)) <|
  OkT.cons (ok_fg [1, 6] (ok_aload_n (kn := 0) rfl cx (by decide +kernel))) <|
  OkT.cons (ok_getA (k := 2) fg_RX8_26 (by decide) rfl cx (by decide +kernel)) <|
  OkT.cons (ok_aload_n (kn := 0) rfl cx (by decide +kernel)) <|
  OkT.cons (ok_getD fg_RX8_47 (by decide) rfl cx (by decide +kernel)) <|
  OkT.cons (ok_iload cx (by decide +kernel)) <|
  OkT.cons (ok_iload_n (kn := 2) rfl cx (by decide +kernel)) <|
  OkT.cons (ok_iload_n (kn := 3) rfl cx (by decide +kernel)) <|
  OkT.cons (ok_callV hex rfl rfl (by decide) ca_RX8_182 hR hA cx (by decide +kernel)) <|
  OkT.cons (ok_istore cx (by decide +kernel)) <|
  OkT.cons (ok_iload cx (by decide +kernel)) <|
  OkT.cons (ok_ldc cx w_672 (by decide +kernel)) <|
  OkT.cons (ok_Ic_ne (off := 6) (by decide) cx (by decide +kernel)) <|
  OkT.cons (ok_bipush (n := (-9)) cx (by decide +kernel) rfl) <|
  OkT.cons (ok_retI hr (by decide +kernel)) <|
  OkT.cons (ok_fg [0, 1, 2, 3, 5] (ok_iload cx (by decide +kernel))) <|
  OkT.cons (ok_If_ne (off := 11) (by decide) cx (by decide +kernel)) <|
  OkT.cons (ok_iload cx (by decide +kernel)) <|
  OkT.cons (ok_callS hex rfl ca_RX8_187 hR hA cx (by decide +kernel)) <|
  OkT.cons (ok_goto (off := 8) (by decide) cx (by decide +kernel)) <|
  OkT.cons (ok_fg [0, 1, 2, 3, 4, 5] (ok_iload cx (by decide +kernel))) <|
  OkT.cons (ok_callS hex rfl ca_RX8_189 hR hA cx (by decide +kernel)) <|
  OkT.cons (ok_fg [0, 1, 2, 3, 4, 5, 6] (ok_retI hr (by decide +kernel))) <|
  OkT.nil⟩
def T_X8_takes (ex : Ex) : Tb := [(0, oAld 0 1), (1, oGetD 6 5), (4, oIld 1 1), (5, oCallV ex 60 1 3), (8, oIf_eq 18), (11, oIld 2 1), (12, oCallS ex 130 1), (15, oIf_ne 20), (18, oFg [0, 1, 2, 3, 4, 5, 6] (pS (fPush (.int (-1))) 1)), (19, oRetI), (20, oFg [3, 4, 5, 6] (oAld 0 1)), (21, oGetA 6 4), (24, oIld 1 1), (25, oCallV ex 92 1 5), (28, oIst 3 1), (29, pS (fPush (.int 1)) 1), (30, oAld 0 1), (31, oGetD 6 5), (34, oCallV ex 55 0 3), (37, pS (fB (fun x y => x <<< (y &&& 31))) 1), (38, oIst 4 2), (40, pS (fPush (.int 0)) 1), (41, oIst 5 2), (43, oFg [1, 6] (oIld 5 2)), (45, pS (fPush (.int 3)) 1), (46, oIc_gt 105), (49, pS (fPush (.int 0)) 1), (50, oIst 6 2), (52, oFg [1] (oIld 6 2)), (54, oIld 4 2), (56, oIc_ge 99), (59, oIld 6 2), (61, oCallS ex 198 1), (64, oIld 5 2), (66, oIc_ne 93), (69, oAld 0 1), (70, oGetD 6 5), (73, oIld 3 1), (74, oIld 2 1), (75, oAld 0 1), (76, oGetD 6 5), (79, oIld 6 2), (81, oCallV ex 69 1 3), (84, oCallV ex 78 3 3), (87, oIf_eq 93), (90, oIld 6 2), (92, oRetI), (93, oFg [1] (oInc 6 1)), (96, oGoto 52), (99, oFg [1, 6] (oInc 5 1)), (102, oGoto 43), (105, oFg [0, 1, 2, 3, 4, 5, 6] (pS (fPush (.int (-9))) 2)), (107, oRetI)]
set_option maxRecDepth 20000 in
theorem ta_X8_takes : TabOk MIS T_X8_takes mi_X8_takes := ⟨by decide +kernel, fun l d ex hex p e R s m args below meth c cells slots ad D cI cZ A cx hR hA hr =>
  OkT.cons (ok_aload_n (kn := 0) rfl cx (by decide +kernel)) <|
  OkT.cons (ok_getD fg_RX8_47 (by decide) rfl cx (by decide +kernel)) <|
  OkT.cons (ok_iload_n (kn := 1) rfl cx (by decide +kernel)) <|
  OkT.cons (ok_callV hex rfl rfl (by decide) ca_RX8_96 hR hA cx (by decide +kernel)) <|
  OkT.cons (ok_If_eq (off := 10) (by decide) cx (by decide +kernel)) <|
  OkT.cons (ok_iload_n (kn := 2) rfl cx (by decide +kernel)) <|
  OkT.cons (ok_callS hex rfl ca_RX8_166 hR hA cx (by decide +kernel)) <|
  OkT.cons (ok_If_ne (off := 5) (by decide) cx (by decide +kernel)) <|
  OkT.cons (ok_fg [0, 1, 2, 3, 4, 5, 6] (ok_iconst (n := (-1)) cx (by decide +kernel) rfl)) <|
  OkT.cons (ok_retI hr (by decide +kernel)) <|
  OkT.cons (ok_fg [3, 4, 5, 6] (ok_aload_n (kn := 0) rfl cx (by decide +kernel))) <|
  OkT.cons (ok_getA (k := 1) fg_RX8_19 (by decide) rfl cx (by decide +kernel)) <|
  OkT.cons (ok_iload_n (kn := 1) rfl cx (by decide +kernel)) <|
  OkT.cons (ok_callV hex rfl rfl (by decide) ca_RX8_99 hR hA cx (by decide +kernel)) <|
  OkT.cons (ok_istore_n (kn := 3) rfl cx (by decide +kernel)) <|
  OkT.cons (ok_iconst (n := 1) cx (by decide +kernel) rfl) <|
  OkT.cons (ok_aload_n (kn := 0) rfl cx (by decide +kernel)) <|
  OkT.cons (ok_getD fg_RX8_47 (by decide) rfl cx (by decide +kernel)) <|
  OkT.cons (ok_callV hex rfl rfl (by decide) ca_RX8_192 hR hA cx (by decide +kernel)) <|
  OkT.cons (ok_ishl cx (by decide +kernel)) <|
  OkT.cons (ok_istore cx (by decide +kernel)) <|
  OkT.cons (ok_iconst (n := 0) cx (by decide +kernel) rfl) <|
  OkT.cons (ok_istore cx (by decide +kernel)) <|
  OkT.cons (ok_fg [1, 6] (ok_iload cx (by decide +kernel))) <|
  OkT.cons (ok_iconst (n := 3) cx (by decide +kernel) rfl) <|
  OkT.cons (ok_Ic_gt (off := 59) (by decide) cx (by decide +kernel)) <|
  OkT.cons (ok_iconst (n := 0) cx (by decide +kernel) rfl) <|
  OkT.cons (ok_istore cx (by decide +kernel)) <|
  OkT.cons (ok_fg [1] (ok_iload cx (by decide +kernel))) <|
  OkT.cons (ok_iload cx (by decide +kernel)) <|
  OkT.cons (ok_Ic_ge (off := 43) (by decide) cx (by decide +kernel)) <|
  OkT.cons (ok_iload cx (by decide +kernel)) <|
  OkT.cons (ok_callS hex rfl ca_RX8_195 hR hA cx (by decide +kernel)) <|
  OkT.cons (ok_iload cx (by decide +kernel)) <|
  OkT.cons (ok_Ic_ne (off := 27) (by decide) cx (by decide +kernel)) <|
  OkT.cons (ok_aload_n (kn := 0) rfl cx (by decide +kernel)) <|
  OkT.cons (ok_getD fg_RX8_47 (by decide) rfl cx (by decide +kernel)) <|
  OkT.cons (ok_iload_n (kn := 3) rfl cx (by decide +kernel)) <|
  OkT.cons (ok_iload_n (kn := 2) rfl cx (by decide +kernel)) <|
  OkT.cons (ok_aload_n (kn := 0) rfl cx (by decide +kernel)) <|
  OkT.cons (ok_getD fg_RX8_47 (by decide) rfl cx (by decide +kernel)) <|
  OkT.cons (ok_iload cx (by decide +kernel)) <|
  OkT.cons (ok_callV hex rfl rfl (by decide) ca_RX8_175 hR hA cx (by decide +kernel)) <|
  OkT.cons (ok_callV hex rfl rfl (by decide) ca_RX8_178 hR hA cx (by decide +kernel)) <|
  OkT.cons (ok_If_eq (off := 6) (by decide) cx (by decide +kernel)) <|
  OkT.cons (ok_iload cx (by decide +kernel)) <|
  OkT.cons (ok_retI hr (by decide +kernel)) <|
  OkT.cons (ok_fg [1] (ok_iinc (n := 1) rfl cx (by decide +kernel))) <|
  OkT.cons (ok_goto (off := (-44)) (by decide) cx (by decide +kernel)) <|
  OkT.cons (ok_fg [1, 6] (ok_iinc (n := 1) rfl cx (by decide +kernel))) <|
  OkT.cons (ok_goto (off := (-59)) (by decide) cx (by decide +kernel)) <|
  OkT.cons (ok_fg [0, 1, 2, 3, 4, 5, 6] (ok_bipush (n := (-9)) cx (by decide +kernel) rfl)) <|
  OkT.cons (ok_retI hr (by decide +kernel)) <|
  OkT.nil⟩
def T_X8_learn (ex : Ex) : Tb := [(0, oIld 1 1), (1, oCallS ex 130 1), (4, oIf_eq 14), (7, oIld 2 1), (8, oCallS ex 131 1), (11, oIf_ne 16), (14, oFg [0, 1, 2, 3] (pS (fPush (.int (-1))) 1)), (15, oRetI), (16, oFg [3] (oAld 0 1)), (17, oGetD 6 5), (20, oIld 1 1), (21, oCallV ex 79 1 3), (24, oIst 3 1), (25, oIld 3 1), (26, oIf_ge 32), (29, pS (fPush (.int (-9))) 2), (31, oRetI), (32, oFg [0, 1] (oIld 2 1)), (33, oIf_ne 43), (36, oIld 3 1), (37, oCallS ex 198 1), (40, oGoto 44), (43, oFg [0, 1, 2] (oIld 3 1)), (44, oFg [0, 1, 2, 3] (oRetI))]
set_option maxRecDepth 20000 in
theorem ta_X8_learn : TabOk MIS T_X8_learn mi_X8_learn := ⟨by decide +kernel, fun l d ex hex p e R s m args below meth c cells slots ad D cI cZ A cx hR hA hr =>
  OkT.cons (ok_iload_n (kn := 1) rfl cx (by decide +kernel)) <|
  OkT.cons (ok_callS hex rfl ca_RX8_166 hR hA cx (by decide +kernel)) <|
  OkT.cons (ok_If_eq (off := 10) (by decide) cx (by decide +kernel)) <|
  OkT.cons (ok_iload_n (kn := 2) rfl cx (by decide +kernel)) <|
  OkT.cons (ok_callS hex rfl ca_RX8_172 hR hA cx (by decide +kernel)) <|
  OkT.cons (ok_If_ne (off := 5) (by decide) cx (by decide +kernel)) <|
  OkT.cons (ok_fg [0, 1, 2, 3] (ok_iconst (n := (-1)) cx (by decide +kernel) rfl)) <|
  OkT.cons (ok_retI hr (by decide +kernel)) <|
  OkT.cons (ok_fg [3] (ok_aload_n (kn := 0) rfl cx (by decide +kernel))) <|
  OkT.cons (ok_getD fg_RX8_47 (by decide) rfl cx (by decide +kernel)) <|
  OkT.cons (ok_iload_n (kn := 1) rfl cx (by decide +kernel)) <|
  OkT.cons (ok_callV hex rfl rfl (by decide) ca_RX8_200 hR hA cx (by decide +kernel)) <|
  OkT.cons (ok_istore_n (kn := 3) rfl cx (by decide +kernel)) <|
  OkT.cons (ok_iload_n (kn := 3) rfl cx (by decide +kernel)) <|
  OkT.cons (ok_If_ge (off := 6) (by decide) cx (by decide +kernel)) <|
  OkT.cons (ok_bipush (n := (-9)) cx (by decide +kernel) rfl) <|
  OkT.cons (ok_retI hr (by decide +kernel)) <|
  OkT.cons (ok_fg [0, 1] (ok_iload_n (kn := 2) rfl cx (by decide +kernel))) <|
  OkT.cons (ok_If_ne (off := 10) (by decide) cx (by decide +kernel)) <|
  OkT.cons (ok_iload_n (kn := 3) rfl cx (by decide +kernel)) <|
  OkT.cons (ok_callS hex rfl ca_RX8_195 hR hA cx (by decide +kernel)) <|
  OkT.cons (ok_goto (off := 4) (by decide) cx (by decide +kernel)) <|
  OkT.cons (ok_fg [0, 1, 2] (ok_iload_n (kn := 3) rfl cx (by decide +kernel))) <|
  OkT.cons (ok_fg [0, 1, 2, 3] (ok_retI hr (by decide +kernel))) <|
  OkT.nil⟩
def T_X8_saw (ex : Ex) : Tb := [(0, oIld 1 1), (1, oIf_lt 16), (4, oIld 1 1), (5, pS (fPush (.int 3)) 1), (6, oIc_gt 16), (9, oIld 2 1), (10, oCallS ex 130 1), (13, oIf_ne 18), (16, oFg [0, 1, 2] (pS (fPush (.int (-1))) 1)), (17, oRetI), (18, oAld 0 1), (19, oGetA 6 15), (22, oIld 1 1), (23, oIld 2 1), (24, oCallV ex 4 2 0), (27, oIf_eq 40), (30, oAld 0 1), (31, oGetA 6 15), (34, oCallV ex 2 0 0), (37, oGoto 42), (40, oFg [0, 1, 2] (pS (fPush (.int (-3))) 2)), (42, oFg [0, 1, 2] (oRetI))]
set_option maxRecDepth 20000 in
theorem ta_X8_saw : TabOk MIS T_X8_saw mi_X8_saw := ⟨by decide +kernel, fun l d ex hex p e R s m args below meth c cells slots ad D cI cZ A cx hR hA hr =>
  OkT.cons (ok_iload_n (kn := 1) rfl cx (by decide +kernel)) <|
  OkT.cons (ok_If_lt (off := 15) (by decide) cx (by decide +kernel)) <|
  OkT.cons (ok_iload_n (kn := 1) rfl cx (by decide +kernel)) <|
  OkT.cons (ok_iconst (n := 3) cx (by decide +kernel) rfl) <|
  OkT.cons (ok_Ic_gt (off := 10) (by decide) cx (by decide +kernel)) <|
  OkT.cons (ok_iload_n (kn := 2) rfl cx (by decide +kernel)) <|
  OkT.cons (ok_callS hex rfl ca_RX8_166 hR hA cx (by decide +kernel)) <|
  OkT.cons (ok_If_ne (off := 5) (by decide) cx (by decide +kernel)) <|
  OkT.cons (ok_fg [0, 1, 2] (ok_iconst (n := (-1)) cx (by decide +kernel) rfl)) <|
  OkT.cons (ok_retI hr (by decide +kernel)) <|
  OkT.cons (ok_aload_n (kn := 0) rfl cx (by decide +kernel)) <|
  OkT.cons (ok_getA (k := 3) fg_RX8_33 (by decide) rfl cx (by decide +kernel)) <|
  OkT.cons (ok_iload_n (kn := 1) rfl cx (by decide +kernel)) <|
  OkT.cons (ok_iload_n (kn := 2) rfl cx (by decide +kernel)) <|
  OkT.cons (ok_callV hex rfl rfl (by decide) ca_RX8_203 hR hA cx (by decide +kernel)) <|
  OkT.cons (ok_If_eq (off := 13) (by decide) cx (by decide +kernel)) <|
  OkT.cons (ok_aload_n (kn := 0) rfl cx (by decide +kernel)) <|
  OkT.cons (ok_getA (k := 3) fg_RX8_33 (by decide) rfl cx (by decide +kernel)) <|
  OkT.cons (ok_callV hex rfl rfl (by decide) ca_RX8_206 hR hA cx (by decide +kernel)) <|
  OkT.cons (ok_goto (off := 5) (by decide) cx (by decide +kernel)) <|
  OkT.cons (ok_fg [0, 1, 2] (ok_bipush (n := (-3)) cx (by decide +kernel) rfl)) <|
  OkT.cons (ok_fg [0, 1, 2] (ok_retI hr (by decide +kernel))) <|
  OkT.nil⟩
def T_X8_forget (ex : Ex) : Tb := [(0, oAld 0 1), (1, oGetA 6 15), (4, oCallV ex 2 0 0), (7, oIst 1 1), (8, oAld 0 1), (9, oGetA 6 15), (12, oCallV ex 3 0 0), (15, oIld 1 1), (16, oRetI)]
set_option maxRecDepth 20000 in
theorem ta_X8_forget : TabOk MIS T_X8_forget mi_X8_forget := ⟨by decide +kernel, fun l d ex hex p e R s m args below meth c cells slots ad D cI cZ A cx hR hA hr =>
  OkT.cons (ok_aload_n (kn := 0) rfl cx (by decide +kernel)) <|
  OkT.cons (ok_getA (k := 3) fg_RX8_33 (by decide) rfl cx (by decide +kernel)) <|
  OkT.cons (ok_callV hex rfl rfl (by decide) ca_RX8_206 hR hA cx (by decide +kernel)) <|
  OkT.cons (ok_istore_n (kn := 1) rfl cx (by decide +kernel)) <|
  OkT.cons (ok_aload_n (kn := 0) rfl cx (by decide +kernel)) <|
  OkT.cons (ok_getA (k := 3) fg_RX8_33 (by decide) rfl cx (by decide +kernel)) <|
  OkT.cons (ok_callV hex rfl rfl (by decide) ca_RX8_77 hR hA cx (by decide +kernel)) <|
  OkT.cons (ok_iload_n (kn := 1) rfl cx (by decide +kernel)) <|
  OkT.cons (ok_retI hr (by decide +kernel)) <|
  OkT.nil⟩
def T_X8_could (ex : Ex) : Tb := [(0, oAld 0 1), (1, oGetA 6 15), (4, oAld 0 1), (5, oGetD 6 5), (8, oCallV ex 5 1 0), (11, oRetI)]
set_option maxRecDepth 20000 in
theorem ta_X8_could : TabOk MIS T_X8_could mi_X8_could := ⟨by decide +kernel, fun l d ex hex p e R s m args below meth c cells slots ad D cI cZ A cx hR hA hr =>
  OkT.cons (ok_aload_n (kn := 0) rfl cx (by decide +kernel)) <|
  OkT.cons (ok_getA (k := 3) fg_RX8_33 (by decide) rfl cx (by decide +kernel)) <|
  OkT.cons (ok_aload_n (kn := 0) rfl cx (by decide +kernel)) <|
  OkT.cons (ok_getD fg_RX8_47 (by decide) rfl cx (by decide +kernel)) <|
  OkT.cons (ok_callV hex rfl rfl (by decide) ca_RX8_209 hR hA cx (by decide +kernel)) <|
  OkT.cons (ok_retI hr (by decide +kernel)) <|
  OkT.nil⟩
def T_X8_under (ex : Ex) : Tb := [(0, oIld 1 1), (1, oIf_lt 9), (4, oIld 1 1), (5, pS (fPush (.int 3)) 1), (6, oIc_lt 11), (9, oFg [0, 1] (pS (fPush (.int (-1))) 1)), (10, oRetI), (11, oAld 0 1), (12, oGetA 6 15), (15, oAld 0 1), (16, oGetD 6 5), (19, oIld 1 1), (20, oCallV ex 6 2 0), (23, oRetI)]
set_option maxRecDepth 20000 in
theorem ta_X8_under : TabOk MIS T_X8_under mi_X8_under := ⟨by decide +kernel, fun l d ex hex p e R s m args below meth c cells slots ad D cI cZ A cx hR hA hr =>
  OkT.cons (ok_iload_n (kn := 1) rfl cx (by decide +kernel)) <|
  OkT.cons (ok_If_lt (off := 8) (by decide) cx (by decide +kernel)) <|
  OkT.cons (ok_iload_n (kn := 1) rfl cx (by decide +kernel)) <|
  OkT.cons (ok_iconst (n := 3) cx (by decide +kernel) rfl) <|
  OkT.cons (ok_Ic_lt (off := 5) (by decide) cx (by decide +kernel)) <|
  OkT.cons (ok_fg [0, 1] (ok_iconst (n := (-1)) cx (by decide +kernel) rfl)) <|
  OkT.cons (ok_retI hr (by decide +kernel)) <|
  OkT.cons (ok_aload_n (kn := 0) rfl cx (by decide +kernel)) <|
  OkT.cons (ok_getA (k := 3) fg_RX8_33 (by decide) rfl cx (by decide +kernel)) <|
  OkT.cons (ok_aload_n (kn := 0) rfl cx (by decide +kernel)) <|
  OkT.cons (ok_getD fg_RX8_47 (by decide) rfl cx (by decide +kernel)) <|
  OkT.cons (ok_iload_n (kn := 1) rfl cx (by decide +kernel)) <|
  OkT.cons (ok_callV hex rfl rfl (by decide) ca_RX8_212 hR hA cx (by decide +kernel)) <|
  OkT.cons (ok_retI hr (by decide +kernel)) <|
  OkT.nil⟩
def T_X8_lifted (ex : Ex) : Tb := [(0, oAld 0 1), (1, oGetA 6 15), (4, oAld 0 1), (5, oGetD 6 5), (8, oCallV ex 7 1 0), (11, oRetI)]
set_option maxRecDepth 20000 in
theorem ta_X8_lifted : TabOk MIS T_X8_lifted mi_X8_lifted := ⟨by decide +kernel, fun l d ex hex p e R s m args below meth c cells slots ad D cI cZ A cx hR hA hr =>
  OkT.cons (ok_aload_n (kn := 0) rfl cx (by decide +kernel)) <|
  OkT.cons (ok_getA (k := 3) fg_RX8_33 (by decide) rfl cx (by decide +kernel)) <|
  OkT.cons (ok_aload_n (kn := 0) rfl cx (by decide +kernel)) <|
  OkT.cons (ok_getD fg_RX8_47 (by decide) rfl cx (by decide +kernel)) <|
  OkT.cons (ok_callV hex rfl rfl (by decide) ca_RX8_216 hR hA cx (by decide +kernel)) <|
  OkT.cons (ok_retI hr (by decide +kernel)) <|
  OkT.nil⟩
def T_X8_broom (ex : Ex) : Tb := [(0, oAld 0 1), (1, oGetD 6 5), (4, oIld 1 1), (5, oCallV ex 60 1 3), (8, oIf_eq 38), (11, oAld 0 1), (12, oGetD 6 5), (15, oIld 2 1), (16, oCallV ex 61 1 3), (19, oIf_eq 38), (22, oAld 0 1), (23, oGetD 6 5), (26, oIld 3 1), (27, oCallV ex 61 1 3), (30, oIf_eq 38), (33, oIld 2 1), (34, oIld 3 1), (35, oIc_ne 40), (38, oFg [0, 1, 2, 3, 4, 5, 6, 7] (pS (fPush (.int (-1))) 1)), (39, oRetI), (40, oFg [7] (oIld 4 2)), (42, oIf_lt 71), (45, oIld 4 2), (47, pS (fPush (.int 4)) 1), (48, oIc_gt 71), (51, oIld 5 2), (53, oIf_lt 71), (56, oIld 5 2), (58, pS (fPush (.int 10)) 2), (60, oIc_ge 71), (63, oIld 6 2), (65, oCallS ex 131 1), (68, oIf_ne 73), (71, oFg [0, 1, 2, 3, 4, 5, 6, 7] (pS (fPush (.int (-1))) 1)), (72, oRetI), (73, oFg [7] (oAld 0 1)), (74, oGetA 6 4), (77, oIld 1 1), (78, oCallV ex 92 1 5), (81, oIst 7 2), (83, oIld 6 2), (85, oIf_ne 113), (88, oAld 0 1), (89, oGetD 6 5), (92, oIld 7 2), (94, oIld 2 1), (95, oIld 3 1), (96, oIld 5 2), (98, oIld 4 2), (100, pS (fPush (.int 1)) 1), (101, oCallS ex 0 7), (104, oIf_eq 111), (107, pS (fPush (.int 1)) 1), (108, oGoto 112), (111, oFg [0, 1, 2, 3, 4, 5, 6, 7] (pS (fPush (.int 0)) 1)), (112, oFg [0, 1, 2, 3, 4, 5, 6, 7] (oRetI)), (113, oFg [1, 6] (oAld 0 1)), (114, oGetD 6 5), (117, oIld 7 2), (119, oIld 2 1), (120, oIld 3 1), (121, oIld 5 2), (123, oIld 4 2), (125, oCallS ex 1 6), (128, oRetI)]
set_option maxRecDepth 20000 in
theorem ta_X8_broom : TabOk MIS T_X8_broom mi_X8_broom := ⟨by decide +kernel, fun l d ex hex p e R s m args below meth c cells slots ad D cI cZ A cx hR hA hr =>
  OkT.cons (ok_aload_n (kn := 0) rfl cx (by decide +kernel)) <|
  OkT.cons (ok_getD fg_RX8_47 (by decide) rfl cx (by decide +kernel)) <|
  OkT.cons (ok_iload_n (kn := 1) rfl cx (by decide +kernel)) <|
  OkT.cons (ok_callV hex rfl rfl (by decide) ca_RX8_96 hR hA cx (by decide +kernel)) <|
  OkT.cons (ok_If_eq (off := 30) (by decide) cx (by decide +kernel)) <|
  OkT.cons (ok_aload_n (kn := 0) rfl cx (by decide +kernel)) <|
  OkT.cons (ok_getD fg_RX8_47 (by decide) rfl cx (by decide +kernel)) <|
  OkT.cons (ok_iload_n (kn := 2) rfl cx (by decide +kernel)) <|
  OkT.cons (ok_callV hex rfl rfl (by decide) ca_RX8_117 hR hA cx (by decide +kernel)) <|
  OkT.cons (ok_If_eq (off := 19) (by decide) cx (by decide +kernel)) <|
  OkT.cons (ok_aload_n (kn := 0) rfl cx (by decide +kernel)) <|
  OkT.cons (ok_getD fg_RX8_47 (by decide) rfl cx (by decide +kernel)) <|
  OkT.cons (ok_iload_n (kn := 3) rfl cx (by decide +kernel)) <|
  OkT.cons (ok_callV hex rfl rfl (by decide) ca_RX8_117 hR hA cx (by decide +kernel)) <|
  OkT.cons (ok_If_eq (off := 8) (by decide) cx (by decide +kernel)) <|
  OkT.cons (ok_iload_n (kn := 2) rfl cx (by decide +kernel)) <|
  OkT.cons (ok_iload_n (kn := 3) rfl cx (by decide +kernel)) <|
  OkT.cons (ok_Ic_ne (off := 5) (by decide) cx (by decide +kernel)) <|
  OkT.cons (ok_fg [0, 1, 2, 3, 4, 5, 6, 7] (ok_iconst (n := (-1)) cx (by decide +kernel) rfl)) <|
  OkT.cons (ok_retI hr (by decide +kernel)) <|
  OkT.cons (ok_fg [7] (ok_iload cx (by decide +kernel))) <|
  OkT.cons (ok_If_lt (off := 29) (by decide) cx (by decide +kernel)) <|
  OkT.cons (ok_iload cx (by decide +kernel)) <|
  OkT.cons (ok_iconst (n := 4) cx (by decide +kernel) rfl) <|
  OkT.cons (ok_Ic_gt (off := 23) (by decide) cx (by decide +kernel)) <|
  OkT.cons (ok_iload cx (by decide +kernel)) <|
  OkT.cons (ok_If_lt (off := 18) (by decide) cx (by decide +kernel)) <|
  OkT.cons (ok_iload cx (by decide +kernel)) <|
  OkT.cons (ok_bipush (n := 10) cx (by decide +kernel) rfl) <|
  OkT.cons (ok_Ic_ge (off := 11) (by decide) cx (by decide +kernel)) <|
  OkT.cons (ok_iload cx (by decide +kernel)) <|
  OkT.cons (ok_callS hex rfl ca_RX8_172 hR hA cx (by decide +kernel)) <|
  OkT.cons (ok_If_ne (off := 5) (by decide) cx (by decide +kernel)) <|
  OkT.cons (ok_fg [0, 1, 2, 3, 4, 5, 6, 7] (ok_iconst (n := (-1)) cx (by decide +kernel) rfl)) <|
  OkT.cons (ok_retI hr (by decide +kernel)) <|
  OkT.cons (ok_fg [7] (ok_aload_n (kn := 0) rfl cx (by decide +kernel))) <|
  OkT.cons (ok_getA (k := 1) fg_RX8_19 (by decide) rfl cx (by decide +kernel)) <|
  OkT.cons (ok_iload_n (kn := 1) rfl cx (by decide +kernel)) <|
  OkT.cons (ok_callV hex rfl rfl (by decide) ca_RX8_99 hR hA cx (by decide +kernel)) <|
  OkT.cons (ok_istore cx (by decide +kernel)) <|
  OkT.cons (ok_iload cx (by decide +kernel)) <|
  OkT.cons (ok_If_ne (off := 28) (by decide) cx (by decide +kernel)) <|
  OkT.cons (ok_aload_n (kn := 0) rfl cx (by decide +kernel)) <|
  OkT.cons (ok_getD fg_RX8_47 (by decide) rfl cx (by decide +kernel)) <|
  OkT.cons (ok_iload cx (by decide +kernel)) <|
  OkT.cons (ok_iload_n (kn := 2) rfl cx (by decide +kernel)) <|
  OkT.cons (ok_iload_n (kn := 3) rfl cx (by decide +kernel)) <|
  OkT.cons (ok_iload cx (by decide +kernel)) <|
  OkT.cons (ok_iload cx (by decide +kernel)) <|
  OkT.cons (ok_iconst (n := 1) cx (by decide +kernel) rfl) <|
  OkT.cons (ok_callN hex rfl ca_RX8_219 hR hA cx (by decide +kernel)) <|
  OkT.cons (ok_If_eq (off := 7) (by decide) cx (by decide +kernel)) <|
  OkT.cons (ok_iconst (n := 1) cx (by decide +kernel) rfl) <|
  OkT.cons (ok_goto (off := 4) (by decide) cx (by decide +kernel)) <|
  OkT.cons (ok_fg [0, 1, 2, 3, 4, 5, 6, 7] (ok_iconst (n := 0) cx (by decide +kernel) rfl)) <|
  OkT.cons (ok_fg [0, 1, 2, 3, 4, 5, 6, 7] (ok_retI hr (by decide +kernel))) <|
  OkT.cons (ok_fg [1, 6] (ok_aload_n (kn := 0) rfl cx (by decide +kernel))) <|
  OkT.cons (ok_getD fg_RX8_47 (by decide) rfl cx (by decide +kernel)) <|
  OkT.cons (ok_iload cx (by decide +kernel)) <|
  OkT.cons (ok_iload_n (kn := 2) rfl cx (by decide +kernel)) <|
  OkT.cons (ok_iload_n (kn := 3) rfl cx (by decide +kernel)) <|
  OkT.cons (ok_iload cx (by decide +kernel)) <|
  OkT.cons (ok_iload cx (by decide +kernel)) <|
  OkT.cons (ok_callS hex rfl ca_RX8_225 hR hA cx (by decide +kernel)) <|
  OkT.cons (ok_retI hr (by decide +kernel)) <|
  OkT.nil⟩
def T_X8_odds (ex : Ex) : Tb := [(0, oIld 1 1), (1, oIf_lt 27), (4, oIld 1 1), (5, pS (fPush (.int 9)) 2), (7, oIc_gt 27), (10, oIld 2 1), (11, oIf_lt 27), (14, oIld 2 1), (15, pS (fPush (.int 10)) 2), (17, oIc_gt 27), (20, oIld 3 1), (21, oCallS ex 131 1), (24, oIf_ne 31), (27, oFg [0, 1, 2, 3, 4, 5, 6] (pS (fPush (.long (-1))) 3)), (30, oRetL), (31, oFg [0, 4, 5, 6] (pS (fPush (.int 10)) 2)), (33, oIld 2 1), (34, pS (fB (fun x y => x - y)) 1), (35, oIst 4 2), (37, pS (fPush (.int 10)) 2), (39, oIst 5 2), (41, pS (fPush (.int 10)) 2), (43, oIst 6 2), (45, oFg [0, 2] (oIld 6 2)), (47, pS (fPush (.int 1)) 1), (48, oIc_le 87), (51, oIld 4 2), (53, oIld 6 2), (55, pS (fDv (fun x y => x - x / y * y)) 1), (56, oIf_ne 81), (59, oIld 5 2), (61, oIld 6 2), (63, pS (fDv (fun x y => x - x / y * y)) 1), (64, oIf_ne 81), (67, oIld 4 2), (69, oIld 6 2), (71, pS (fDv (fun x y => x / y)) 1), (72, oIst 4 2), (74, oIld 5 2), (76, oIld 6 2), (78, pS (fDv (fun x y => x / y)) 1), (79, oIst 5 2), (81, oFg [0, 2] (oInc 6 (-1))), (84, oGoto 45), (87, oFg [0, 2, 6] (oIld 3 1)), (88, oIf_ne 96), (91, oIld 4 2), (93, oGoto 98), (96, oFg [0, 2, 3, 4, 6] (oIld 5 2)), (98, oFg [0, 2, 3, 4, 5, 6] (oIld 1 1)), (99, oCallS ex 132 2), (102, oRetL)]
set_option maxRecDepth 20000 in
theorem ta_X8_odds : TabOk MIS T_X8_odds mi_X8_odds := ⟨by decide +kernel, fun l d ex hex p e R s m args below meth c cells slots ad D cI cZ A cx hR hA hr =>
  OkT.cons (ok_iload_n (kn := 1) rfl cx (by decide +kernel)) <|
  OkT.cons (ok_If_lt (off := 26) (by decide) cx (by decide +kernel)) <|
  OkT.cons (ok_iload_n (kn := 1) rfl cx (by decide +kernel)) <|
  OkT.cons (ok_bipush (n := 9) cx (by decide +kernel) rfl) <|
  OkT.cons (ok_Ic_gt (off := 20) (by decide) cx (by decide +kernel)) <|
  OkT.cons (ok_iload_n (kn := 2) rfl cx (by decide +kernel)) <|
  OkT.cons (ok_If_lt (off := 16) (by decide) cx (by decide +kernel)) <|
  OkT.cons (ok_iload_n (kn := 2) rfl cx (by decide +kernel)) <|
  OkT.cons (ok_bipush (n := 10) cx (by decide +kernel) rfl) <|
  OkT.cons (ok_Ic_gt (off := 10) (by decide) cx (by decide +kernel)) <|
  OkT.cons (ok_iload_n (kn := 3) rfl cx (by decide +kernel)) <|
  OkT.cons (ok_callS hex rfl ca_RX8_172 hR hA cx (by decide +kernel)) <|
  OkT.cons (ok_If_ne (off := 7) (by decide) cx (by decide +kernel)) <|
  OkT.cons (ok_fg [0, 1, 2, 3, 4, 5, 6] (ok_ldc2 cx w_775 (by decide +kernel))) <|
  OkT.cons (ok_retL hr (by decide +kernel)) <|
  OkT.cons (ok_fg [0, 4, 5, 6] (ok_bipush (n := 10) cx (by decide +kernel) rfl)) <|
  OkT.cons (ok_iload_n (kn := 2) rfl cx (by decide +kernel)) <|
  OkT.cons (ok_isub cx (by decide +kernel)) <|
  OkT.cons (ok_istore cx (by decide +kernel)) <|
  OkT.cons (ok_bipush (n := 10) cx (by decide +kernel) rfl) <|
  OkT.cons (ok_istore cx (by decide +kernel)) <|
  OkT.cons (ok_bipush (n := 10) cx (by decide +kernel) rfl) <|
  OkT.cons (ok_istore cx (by decide +kernel)) <|
  OkT.cons (ok_fg [0, 2] (ok_iload cx (by decide +kernel))) <|
  OkT.cons (ok_iconst (n := 1) cx (by decide +kernel) rfl) <|
  OkT.cons (ok_Ic_le (off := 39) (by decide) cx (by decide +kernel)) <|
  OkT.cons (ok_iload cx (by decide +kernel)) <|
  OkT.cons (ok_iload cx (by decide +kernel)) <|
  OkT.cons (ok_irem cx (by decide +kernel)) <|
  OkT.cons (ok_If_ne (off := 25) (by decide) cx (by decide +kernel)) <|
  OkT.cons (ok_iload cx (by decide +kernel)) <|
  OkT.cons (ok_iload cx (by decide +kernel)) <|
  OkT.cons (ok_irem cx (by decide +kernel)) <|
  OkT.cons (ok_If_ne (off := 17) (by decide) cx (by decide +kernel)) <|
  OkT.cons (ok_iload cx (by decide +kernel)) <|
  OkT.cons (ok_iload cx (by decide +kernel)) <|
  OkT.cons (ok_idiv cx (by decide +kernel)) <|
  OkT.cons (ok_istore cx (by decide +kernel)) <|
  OkT.cons (ok_iload cx (by decide +kernel)) <|
  OkT.cons (ok_iload cx (by decide +kernel)) <|
  OkT.cons (ok_idiv cx (by decide +kernel)) <|
  OkT.cons (ok_istore cx (by decide +kernel)) <|
  OkT.cons (ok_fg [0, 2] (ok_iinc (n := (-1)) rfl cx (by decide +kernel))) <|
  OkT.cons (ok_goto (off := (-39)) (by decide) cx (by decide +kernel)) <|
  OkT.cons (ok_fg [0, 2, 6] (ok_iload_n (kn := 3) rfl cx (by decide +kernel))) <|
  OkT.cons (ok_If_ne (off := 8) (by decide) cx (by decide +kernel)) <|
  OkT.cons (ok_iload cx (by decide +kernel)) <|
  OkT.cons (ok_goto (off := 5) (by decide) cx (by decide +kernel)) <|
  OkT.cons (ok_fg [0, 2, 3, 4, 6] (ok_iload cx (by decide +kernel))) <|
  OkT.cons (ok_fg [0, 2, 3, 4, 5, 6] (ok_iload_n (kn := 1) rfl cx (by decide +kernel))) <|
  OkT.cons (ok_callS hex rfl ca_RX8_231 hR hA cx (by decide +kernel)) <|
  OkT.cons (ok_retL hr (by decide +kernel)) <|
  OkT.nil⟩
def T_X8_rate (ex : Ex) : Tb := [(0, oIld 1 1), (1, oIf_lt 21), (4, oIld 1 1), (5, pS (fPush (.int 6)) 2), (7, oIc_ge 21), (10, oAld 0 1), (11, oGetD 6 5), (14, oIld 2 1), (15, oCallV ex 59 1 3), (18, oIf_ne 24), (21, oFg [0, 1, 2] (pS (fPush (.int (-1000000))) 2)), (23, oRetI), (24, oAld 0 1), (25, oGetA 6 19), (28, oIld 1 1), (29, oAld 0 1), (30, oGetD 6 5), (33, oAld 0 1), (34, oGetA 6 4), (37, oIld 2 1), (38, oCallV ex 12 4 1), (41, oRetI)]
set_option maxRecDepth 20000 in
theorem ta_X8_rate : TabOk MIS T_X8_rate mi_X8_rate := ⟨by decide +kernel, fun l d ex hex p e R s m args below meth c cells slots ad D cI cZ A cx hR hA hr =>
  OkT.cons (ok_iload_n (kn := 1) rfl cx (by decide +kernel)) <|
  OkT.cons (ok_If_lt (off := 20) (by decide) cx (by decide +kernel)) <|
  OkT.cons (ok_iload_n (kn := 1) rfl cx (by decide +kernel)) <|
  OkT.cons (ok_bipush (n := 6) cx (by decide +kernel) rfl) <|
  OkT.cons (ok_Ic_ge (off := 14) (by decide) cx (by decide +kernel)) <|
  OkT.cons (ok_aload_n (kn := 0) rfl cx (by decide +kernel)) <|
  OkT.cons (ok_getD fg_RX8_47 (by decide) rfl cx (by decide +kernel)) <|
  OkT.cons (ok_iload_n (kn := 2) rfl cx (by decide +kernel)) <|
  OkT.cons (ok_callV hex rfl rfl (by decide) ca_RX8_80 hR hA cx (by decide +kernel)) <|
  OkT.cons (ok_If_ne (off := 6) (by decide) cx (by decide +kernel)) <|
  OkT.cons (ok_fg [0, 1, 2] (ok_ldc cx w_783 (by decide +kernel))) <|
  OkT.cons (ok_retI hr (by decide +kernel)) <|
  OkT.cons (ok_aload_n (kn := 0) rfl cx (by decide +kernel)) <|
  OkT.cons (ok_getA (k := 4) fg_RX8_40 (by decide) rfl cx (by decide +kernel)) <|
  OkT.cons (ok_iload_n (kn := 1) rfl cx (by decide +kernel)) <|
  OkT.cons (ok_aload_n (kn := 0) rfl cx (by decide +kernel)) <|
  OkT.cons (ok_getD fg_RX8_47 (by decide) rfl cx (by decide +kernel)) <|
  OkT.cons (ok_aload_n (kn := 0) rfl cx (by decide +kernel)) <|
  OkT.cons (ok_getA (k := 1) fg_RX8_19 (by decide) rfl cx (by decide +kernel)) <|
  OkT.cons (ok_iload_n (kn := 2) rfl cx (by decide +kernel)) <|
  OkT.cons (ok_callV hex rfl rfl (by decide) ca_RX8_236 hR hA cx (by decide +kernel)) <|
  OkT.cons (ok_retI hr (by decide +kernel)) <|
  OkT.nil⟩
def T_X8_keep (ex : Ex) : Tb := [(0, oIld 1 1), (1, oIf_lt 9), (4, oIld 1 1), (5, pS (fPush (.int 2)) 1), (6, oIc_lt 11), (9, oFg [0, 1] (pS (fPush (.int (-1))) 1)), (10, oRetI), (11, oAld 0 1), (12, oGetA 6 4), (15, oIld 1 1), (16, oCallV ex 100 1 5), (19, oAld 0 1), (20, oGetA 6 4), (23, oCallV ex 93 0 5), (26, oRetI)]
set_option maxRecDepth 20000 in
theorem ta_X8_keep : TabOk MIS T_X8_keep mi_X8_keep := ⟨by decide +kernel, fun l d ex hex p e R s m args below meth c cells slots ad D cI cZ A cx hR hA hr =>
  OkT.cons (ok_iload_n (kn := 1) rfl cx (by decide +kernel)) <|
  OkT.cons (ok_If_lt (off := 8) (by decide) cx (by decide +kernel)) <|
  OkT.cons (ok_iload_n (kn := 1) rfl cx (by decide +kernel)) <|
  OkT.cons (ok_iconst (n := 2) cx (by decide +kernel) rfl) <|
  OkT.cons (ok_Ic_lt (off := 5) (by decide) cx (by decide +kernel)) <|
  OkT.cons (ok_fg [0, 1] (ok_iconst (n := (-1)) cx (by decide +kernel) rfl)) <|
  OkT.cons (ok_retI hr (by decide +kernel)) <|
  OkT.cons (ok_aload_n (kn := 0) rfl cx (by decide +kernel)) <|
  OkT.cons (ok_getA (k := 1) fg_RX8_19 (by decide) rfl cx (by decide +kernel)) <|
  OkT.cons (ok_iload_n (kn := 1) rfl cx (by decide +kernel)) <|
  OkT.cons (ok_callV hex rfl rfl (by decide) ca_RX8_240 hR hA cx (by decide +kernel)) <|
  OkT.cons (ok_aload_n (kn := 0) rfl cx (by decide +kernel)) <|
  OkT.cons (ok_getA (k := 1) fg_RX8_19 (by decide) rfl cx (by decide +kernel)) <|
  OkT.cons (ok_callV hex rfl rfl (by decide) ca_RX8_157 hR hA cx (by decide +kernel)) <|
  OkT.cons (ok_retI hr (by decide +kernel)) <|
  OkT.nil⟩
def T_X8_back (ex : Ex) : Tb := [(0, oIld 1 1), (1, oIf_lt 9), (4, oIld 1 1), (5, pS (fPush (.int 2)) 1), (6, oIc_lt 11), (9, oFg [0, 1] (pS (fPush (.int (-1))) 1)), (10, oRetI), (11, oAld 0 1), (12, oGetA 6 4), (15, oIld 1 1), (16, oCallV ex 101 1 5), (19, oIf_eq 32), (22, oAld 0 1), (23, oGetA 6 4), (26, oCallV ex 93 0 5), (29, oGoto 34), (32, oFg [0, 1] (pS (fPush (.int (-2))) 2)), (34, oFg [0, 1] (oRetI))]
set_option maxRecDepth 20000 in
theorem ta_X8_back : TabOk MIS T_X8_back mi_X8_back := ⟨by decide +kernel, fun l d ex hex p e R s m args below meth c cells slots ad D cI cZ A cx hR hA hr =>
  OkT.cons (ok_iload_n (kn := 1) rfl cx (by decide +kernel)) <|
  OkT.cons (ok_If_lt (off := 8) (by decide) cx (by decide +kernel)) <|
  OkT.cons (ok_iload_n (kn := 1) rfl cx (by decide +kernel)) <|
  OkT.cons (ok_iconst (n := 2) cx (by decide +kernel) rfl) <|
  OkT.cons (ok_Ic_lt (off := 5) (by decide) cx (by decide +kernel)) <|
  OkT.cons (ok_fg [0, 1] (ok_iconst (n := (-1)) cx (by decide +kernel) rfl)) <|
  OkT.cons (ok_retI hr (by decide +kernel)) <|
  OkT.cons (ok_aload_n (kn := 0) rfl cx (by decide +kernel)) <|
  OkT.cons (ok_getA (k := 1) fg_RX8_19 (by decide) rfl cx (by decide +kernel)) <|
  OkT.cons (ok_iload_n (kn := 1) rfl cx (by decide +kernel)) <|
  OkT.cons (ok_callV hex rfl rfl (by decide) ca_RX8_243 hR hA cx (by decide +kernel)) <|
  OkT.cons (ok_If_eq (off := 13) (by decide) cx (by decide +kernel)) <|
  OkT.cons (ok_aload_n (kn := 0) rfl cx (by decide +kernel)) <|
  OkT.cons (ok_getA (k := 1) fg_RX8_19 (by decide) rfl cx (by decide +kernel)) <|
  OkT.cons (ok_callV hex rfl rfl (by decide) ca_RX8_157 hR hA cx (by decide +kernel)) <|
  OkT.cons (ok_goto (off := 5) (by decide) cx (by decide +kernel)) <|
  OkT.cons (ok_fg [0, 1] (ok_bipush (n := (-2)) cx (by decide +kernel) rfl)) <|
  OkT.cons (ok_fg [0, 1] (ok_retI hr (by decide +kernel))) <|
  OkT.nil⟩
def T_X8_count (ex : Ex) : Tb := [(0, oIld 1 1), (1, oTsw [(0, 48), (1, 56), (2, 64), (3, 72), (4, 80), (5, 88), (6, 96), (7, 104)] 112), (48, oFg [1] (oAld 0 1)), (49, oGetD 6 5), (52, oCallV ex 53 0 3), (55, oRetI), (56, oFg [1] (oAld 0 1)), (57, oGetD 6 5), (60, oCallV ex 54 0 3), (63, oRetI), (64, oFg [1] (oAld 0 1)), (65, oGetD 6 5), (68, oCallV ex 55 0 3), (71, oRetI), (72, oFg [1] (oAld 0 1)), (73, oGetA 6 15), (76, oCallV ex 2 0 0), (79, oRetI), (80, oFg [1] (oAld 0 1)), (81, oGetA 6 1), (84, oCallV ex 19 0 2), (87, oRetI), (88, oFg [1] (oAld 0 1)), (89, oGetD 6 5), (92, oCallV ex 56 0 3), (95, oRetI), (96, oFg [1] (oAld 0 1)), (97, oGetD 6 5), (100, oCallV ex 57 0 3), (103, oRetI), (104, oFg [1] (oAld 0 1)), (105, oGetD 6 5), (108, oCallV ex 58 0 3), (111, oRetI), (112, oFg [0, 1] (pS (fPush (.int (-1))) 1)), (113, oRetI)]
set_option maxRecDepth 20000 in
theorem ta_X8_count : TabOk MIS T_X8_count mi_X8_count := ⟨by decide +kernel, fun l d ex hex p e R s m args below meth c cells slots ad D cI cZ A cx hR hA hr =>
  OkT.cons (ok_iload_n (kn := 1) rfl cx (by decide +kernel)) <|
  OkT.cons (ok_tsw (dflt := 111) (lo := 0) (hi := 7) (offs := #[47, 55, 63, 71, 79, 87, 95, 103]) (len := 47) (by decide +kernel) cx (by decide +kernel)) <|
  OkT.cons (ok_fg [1] (ok_aload_n (kn := 0) rfl cx (by decide +kernel))) <|
  OkT.cons (ok_getD fg_RX8_47 (by decide) rfl cx (by decide +kernel)) <|
  OkT.cons (ok_callV hex rfl rfl (by decide) ca_RX8_246 hR hA cx (by decide +kernel)) <|
  OkT.cons (ok_retI hr (by decide +kernel)) <|
  OkT.cons (ok_fg [1] (ok_aload_n (kn := 0) rfl cx (by decide +kernel))) <|
  OkT.cons (ok_getD fg_RX8_47 (by decide) rfl cx (by decide +kernel)) <|
  OkT.cons (ok_callV hex rfl rfl (by decide) ca_RX8_249 hR hA cx (by decide +kernel)) <|
  OkT.cons (ok_retI hr (by decide +kernel)) <|
  OkT.cons (ok_fg [1] (ok_aload_n (kn := 0) rfl cx (by decide +kernel))) <|
  OkT.cons (ok_getD fg_RX8_47 (by decide) rfl cx (by decide +kernel)) <|
  OkT.cons (ok_callV hex rfl rfl (by decide) ca_RX8_192 hR hA cx (by decide +kernel)) <|
  OkT.cons (ok_retI hr (by decide +kernel)) <|
  OkT.cons (ok_fg [1] (ok_aload_n (kn := 0) rfl cx (by decide +kernel))) <|
  OkT.cons (ok_getA (k := 3) fg_RX8_33 (by decide) rfl cx (by decide +kernel)) <|
  OkT.cons (ok_callV hex rfl rfl (by decide) ca_RX8_206 hR hA cx (by decide +kernel)) <|
  OkT.cons (ok_retI hr (by decide +kernel)) <|
  OkT.cons (ok_fg [1] (ok_aload_n (kn := 0) rfl cx (by decide +kernel))) <|
  OkT.cons (ok_getA (k := 0) fg_RX8_10 (by decide) rfl cx (by decide +kernel)) <|
  OkT.cons (ok_callV hex rfl rfl (by decide) ca_RX8_62 hR hA cx (by decide +kernel)) <|
  OkT.cons (ok_retI hr (by decide +kernel)) <|
  OkT.cons (ok_fg [1] (ok_aload_n (kn := 0) rfl cx (by decide +kernel))) <|
  OkT.cons (ok_getD fg_RX8_47 (by decide) rfl cx (by decide +kernel)) <|
  OkT.cons (ok_callV hex rfl rfl (by decide) ca_RX8_252 hR hA cx (by decide +kernel)) <|
  OkT.cons (ok_retI hr (by decide +kernel)) <|
  OkT.cons (ok_fg [1] (ok_aload_n (kn := 0) rfl cx (by decide +kernel))) <|
  OkT.cons (ok_getD fg_RX8_47 (by decide) rfl cx (by decide +kernel)) <|
  OkT.cons (ok_callV hex rfl rfl (by decide) ca_RX8_147 hR hA cx (by decide +kernel)) <|
  OkT.cons (ok_retI hr (by decide +kernel)) <|
  OkT.cons (ok_fg [1] (ok_aload_n (kn := 0) rfl cx (by decide +kernel))) <|
  OkT.cons (ok_getD fg_RX8_47 (by decide) rfl cx (by decide +kernel)) <|
  OkT.cons (ok_callV hex rfl rfl (by decide) ca_RX8_255 hR hA cx (by decide +kernel)) <|
  OkT.cons (ok_retI hr (by decide +kernel)) <|
  OkT.cons (ok_fg [0, 1] (ok_iconst (n := (-1)) cx (by decide +kernel) rfl)) <|
  OkT.cons (ok_retI hr (by decide +kernel)) <|
  OkT.nil⟩
def T_X8_trace (ex : Ex) : Tb := [(0, oAld 0 1), (1, oGetA 6 19), (4, oCallV ex 11 0 1), (7, oRetL)]
set_option maxRecDepth 20000 in
theorem ta_X8_trace : TabOk MIS T_X8_trace mi_X8_trace := ⟨by decide +kernel, fun l d ex hex p e R s m args below meth c cells slots ad D cI cZ A cx hR hA hr =>
  OkT.cons (ok_aload_n (kn := 0) rfl cx (by decide +kernel)) <|
  OkT.cons (ok_getA (k := 4) fg_RX8_40 (by decide) rfl cx (by decide +kernel)) <|
  OkT.cons (ok_callV hex rfl rfl (by decide) ca_RX8_258 hR hA cx (by decide +kernel)) <|
  OkT.cons (ok_retL hr (by decide +kernel)) <|
  OkT.nil⟩
def T_X8_isEffectSet (ex : Ex) : Tb := [(0, oIld 0 1), (1, oIf_lt 15), (4, oIld 0 1), (5, pS (fPush (.int 1024)) 3), (8, oIc_ge 15), (11, pS (fPush (.int 1)) 1), (12, oGoto 16), (15, oFg [0] (pS (fPush (.int 0)) 1)), (16, oFg [0] (oRetZ))]
set_option maxRecDepth 20000 in
theorem ta_X8_isEffectSet : TabOk MIS T_X8_isEffectSet mi_X8_isEffectSet := ⟨by decide +kernel, fun l d ex hex p e R s m args below meth c cells slots ad D cI cZ A cx hR hA hr =>
  OkT.cons (ok_iload_n (kn := 0) rfl cx (by decide +kernel)) <|
  OkT.cons (ok_If_lt (off := 14) (by decide) cx (by decide +kernel)) <|
  OkT.cons (ok_iload_n (kn := 0) rfl cx (by decide +kernel)) <|
  OkT.cons (ok_sipush (n := 1024) cx (by decide +kernel) rfl) <|
  OkT.cons (ok_Ic_ge (off := 7) (by decide) cx (by decide +kernel)) <|
  OkT.cons (ok_iconst (n := 1) cx (by decide +kernel) rfl) <|
  OkT.cons (ok_goto (off := 4) (by decide) cx (by decide +kernel)) <|
  OkT.cons (ok_fg [0] (ok_iconst (n := 0) cx (by decide +kernel) rfl)) <|
  OkT.cons (ok_fg [0] (ok_retZ hr (by decide +kernel))) <|
  OkT.nil⟩
def T_X8_isYesOrNo (ex : Ex) : Tb := [(0, oIld 0 1), (1, oIf_eq 9), (4, oIld 0 1), (5, pS (fPush (.int 1)) 1), (6, oIc_ne 13), (9, oFg [0] (pS (fPush (.int 1)) 1)), (10, oGoto 14), (13, oFg [0] (pS (fPush (.int 0)) 1)), (14, oFg [0] (oRetZ))]
set_option maxRecDepth 20000 in
theorem ta_X8_isYesOrNo : TabOk MIS T_X8_isYesOrNo mi_X8_isYesOrNo := ⟨by decide +kernel, fun l d ex hex p e R s m args below meth c cells slots ad D cI cZ A cx hR hA hr =>
  OkT.cons (ok_iload_n (kn := 0) rfl cx (by decide +kernel)) <|
  OkT.cons (ok_If_eq (off := 8) (by decide) cx (by decide +kernel)) <|
  OkT.cons (ok_iload_n (kn := 0) rfl cx (by decide +kernel)) <|
  OkT.cons (ok_iconst (n := 1) cx (by decide +kernel) rfl) <|
  OkT.cons (ok_Ic_ne (off := 7) (by decide) cx (by decide +kernel)) <|
  OkT.cons (ok_fg [0] (ok_iconst (n := 1) cx (by decide +kernel) rfl)) <|
  OkT.cons (ok_goto (off := 4) (by decide) cx (by decide +kernel)) <|
  OkT.cons (ok_fg [0] (ok_iconst (n := 0) cx (by decide +kernel) rfl)) <|
  OkT.cons (ok_fg [0] (ok_retZ hr (by decide +kernel))) <|
  OkT.nil⟩
def T_X8_power (ex : Ex) : Tb := [(0, pS (fPush (.long 1)) 1), (1, oLst 2 1), (2, pS (fPush (.int 0)) 1), (3, oIst 4 2), (5, oIld 4 2), (7, oIld 1 1), (8, oIc_ge 22), (11, oLld 2 1), (12, oIld 0 1), (13, pS fI2l 1), (14, pS (fBL (fun x y => x * y)) 1), (15, oLst 2 1), (16, oInc 4 1), (19, oGoto 5), (22, oFg [0, 1, 4] (oLld 2 1)), (23, oRetL)]
set_option maxRecDepth 20000 in
theorem ta_X8_power : TabOk MIS T_X8_power mi_X8_power := ⟨by decide +kernel, fun l d ex hex p e R s m args below meth c cells slots ad D cI cZ A cx hR hA hr =>
  OkT.cons (ok_lconst (n := 1) cx (by decide +kernel) rfl) <|
  OkT.cons (ok_lstore_n (kn := 2) rfl cx (by decide +kernel)) <|
  OkT.cons (ok_iconst (n := 0) cx (by decide +kernel) rfl) <|
  OkT.cons (ok_istore cx (by decide +kernel)) <|
  OkT.cons (ok_iload cx (by decide +kernel)) <|
  OkT.cons (ok_iload_n (kn := 1) rfl cx (by decide +kernel)) <|
  OkT.cons (ok_Ic_ge (off := 14) (by decide) cx (by decide +kernel)) <|
  OkT.cons (ok_lload_n (kn := 2) rfl cx (by decide +kernel)) <|
  OkT.cons (ok_iload_n (kn := 0) rfl cx (by decide +kernel)) <|
  OkT.cons (ok_i2l cx (by decide +kernel)) <|
  OkT.cons (ok_lmul cx (by decide +kernel)) <|
  OkT.cons (ok_lstore_n (kn := 2) rfl cx (by decide +kernel)) <|
  OkT.cons (ok_iinc (n := 1) rfl cx (by decide +kernel)) <|
  OkT.cons (ok_goto (off := (-14)) (by decide) cx (by decide +kernel)) <|
  OkT.cons (ok_fg [0, 1, 4] (ok_lload_n (kn := 2) rfl cx (by decide +kernel))) <|
  OkT.cons (ok_retL hr (by decide +kernel)) <|
  OkT.nil⟩
def T_X8_at (ex : Ex) : Tb := [(0, oIld 1 1), (1, oIf_lt 16), (4, oIld 1 1), (5, oAld 0 1), (6, oAlen), (7, oIc_ge 16), (10, oAld 0 1), (11, oIld 1 1), (12, oIald), (13, oGoto 17), (16, oFg [0, 1] (pS (fPush (.int 0)) 1)), (17, oFg [0, 1] (oRetI))]
set_option maxRecDepth 20000 in
theorem ta_X8_at : TabOk MIS T_X8_at mi_X8_at := ⟨by decide +kernel, fun l d ex hex p e R s m args below meth c cells slots ad D cI cZ A cx hR hA hr =>
  OkT.cons (ok_iload_n (kn := 1) rfl cx (by decide +kernel)) <|
  OkT.cons (ok_If_lt (off := 15) (by decide) cx (by decide +kernel)) <|
  OkT.cons (ok_iload_n (kn := 1) rfl cx (by decide +kernel)) <|
  OkT.cons (ok_aload_n (kn := 0) rfl cx (by decide +kernel)) <|
  OkT.cons (ok_alen cx (by decide +kernel)) <|
  OkT.cons (ok_Ic_ge (off := 9) (by decide) cx (by decide +kernel)) <|
  OkT.cons (ok_aload_n (kn := 0) rfl cx (by decide +kernel)) <|
  OkT.cons (ok_iload_n (kn := 1) rfl cx (by decide +kernel)) <|
  OkT.cons (ok_Iald cx (by decide +kernel)) <|
  OkT.cons (ok_goto (off := 4) (by decide) cx (by decide +kernel)) <|
  OkT.cons (ok_fg [0, 1] (ok_iconst (n := 0) cx (by decide +kernel) rfl)) <|
  OkT.cons (ok_fg [0, 1] (ok_retI hr (by decide +kernel))) <|
  OkT.nil⟩
def T_X8_put (ex : Ex) : Tb := [(0, oIld 1 1), (1, oIf_lt 14), (4, oIld 1 1), (5, oAld 0 1), (6, oAlen), (7, oIc_ge 14), (10, oAld 0 1), (11, oIld 1 1), (12, oIld 2 1), (13, oIast), (14, oFg [0, 1, 2] (oRetV))]
set_option maxRecDepth 20000 in
theorem ta_X8_put : TabOk MIS T_X8_put mi_X8_put := ⟨by decide +kernel, fun l d ex hex p e R s m args below meth c cells slots ad D cI cZ A cx hR hA hr =>
  OkT.cons (ok_iload_n (kn := 1) rfl cx (by decide +kernel)) <|
  OkT.cons (ok_If_lt (off := 13) (by decide) cx (by decide +kernel)) <|
  OkT.cons (ok_iload_n (kn := 1) rfl cx (by decide +kernel)) <|
  OkT.cons (ok_aload_n (kn := 0) rfl cx (by decide +kernel)) <|
  OkT.cons (ok_alen cx (by decide +kernel)) <|
  OkT.cons (ok_Ic_ge (off := 7) (by decide) cx (by decide +kernel)) <|
  OkT.cons (ok_aload_n (kn := 0) rfl cx (by decide +kernel)) <|
  OkT.cons (ok_iload_n (kn := 1) rfl cx (by decide +kernel)) <|
  OkT.cons (ok_iload_n (kn := 2) rfl cx (by decide +kernel)) <|
  OkT.cons (ok_Iast cx (by decide +kernel)) <|
  OkT.cons (ok_fg [0, 1, 2] (ok_retV hr (by decide +kernel))) <|
  OkT.nil⟩
def T_X9_in (ex : Ex) : Tb := [(0, oIld 0 1), (1, oIld 1 1), (2, oIc_lt 14), (5, oIld 0 1), (6, oIld 2 1), (7, oIc_gt 14), (10, pS (fPush (.int 1)) 1), (11, oGoto 15), (14, oFg [0, 1, 2] (pS (fPush (.int 0)) 1)), (15, oFg [0, 1, 2] (oRetZ))]
set_option maxRecDepth 20000 in
theorem ta_X9_in : TabOk MIS T_X9_in mi_X9_in := ⟨by decide +kernel, fun l d ex hex p e R s m args below meth c cells slots ad D cI cZ A cx hR hA hr =>
  OkT.cons (ok_iload_n (kn := 0) rfl cx (by decide +kernel)) <|
  OkT.cons (ok_iload_n (kn := 1) rfl cx (by decide +kernel)) <|
  OkT.cons (ok_Ic_lt (off := 12) (by decide) cx (by decide +kernel)) <|
  OkT.cons (ok_iload_n (kn := 0) rfl cx (by decide +kernel)) <|
  OkT.cons (ok_iload_n (kn := 2) rfl cx (by decide +kernel)) <|
  OkT.cons (ok_Ic_gt (off := 7) (by decide) cx (by decide +kernel)) <|
  OkT.cons (ok_iconst (n := 1) cx (by decide +kernel) rfl) <|
  OkT.cons (ok_goto (off := 4) (by decide) cx (by decide +kernel)) <|
  OkT.cons (ok_fg [0, 1, 2] (ok_iconst (n := 0) cx (by decide +kernel) rfl)) <|
  OkT.cons (ok_fg [0, 1, 2] (ok_retZ hr (by decide +kernel))) <|
  OkT.nil⟩
def T_X9_ones (ex : Ex) : Tb := [(0, pS (fPush (.int 0)) 1), (1, oIst 1 1), (2, pS (fPush (.int 0)) 1), (3, oIst 2 1), (4, oIld 2 1), (5, pS (fPush (.int 10)) 2), (7, oIc_ge 24), (10, oIld 1 1), (11, oIld 0 1), (12, oIld 2 1), (13, pS (fB (fun x y => x >>> (y &&& 31))) 1), (14, pS (fPush (.int 1)) 1), (15, pS (fB (fun x y => x &&& y)) 1), (16, pS (fB (fun x y => x + y)) 1), (17, oIst 1 1), (18, oInc 2 1), (21, oGoto 4), (24, oFg [0, 2] (oIld 1 1)), (25, oRetI)]
set_option maxRecDepth 20000 in
theorem ta_X9_ones : TabOk MIS T_X9_ones mi_X9_ones := ⟨by decide +kernel, fun l d ex hex p e R s m args below meth c cells slots ad D cI cZ A cx hR hA hr =>
  OkT.cons (ok_iconst (n := 0) cx (by decide +kernel) rfl) <|
  OkT.cons (ok_istore_n (kn := 1) rfl cx (by decide +kernel)) <|
  OkT.cons (ok_iconst (n := 0) cx (by decide +kernel) rfl) <|
  OkT.cons (ok_istore_n (kn := 2) rfl cx (by decide +kernel)) <|
  OkT.cons (ok_iload_n (kn := 2) rfl cx (by decide +kernel)) <|
  OkT.cons (ok_bipush (n := 10) cx (by decide +kernel) rfl) <|
  OkT.cons (ok_Ic_ge (off := 17) (by decide) cx (by decide +kernel)) <|
  OkT.cons (ok_iload_n (kn := 1) rfl cx (by decide +kernel)) <|
  OkT.cons (ok_iload_n (kn := 0) rfl cx (by decide +kernel)) <|
  OkT.cons (ok_iload_n (kn := 2) rfl cx (by decide +kernel)) <|
  OkT.cons (ok_ishr cx (by decide +kernel)) <|
  OkT.cons (ok_iconst (n := 1) cx (by decide +kernel) rfl) <|
  OkT.cons (ok_iand cx (by decide +kernel)) <|
  OkT.cons (ok_iadd cx (by decide +kernel)) <|
  OkT.cons (ok_istore_n (kn := 1) rfl cx (by decide +kernel)) <|
  OkT.cons (ok_iinc (n := 1) rfl cx (by decide +kernel)) <|
  OkT.cons (ok_goto (off := (-17)) (by decide) cx (by decide +kernel)) <|
  OkT.cons (ok_fg [0, 2] (ok_iload_n (kn := 1) rfl cx (by decide +kernel))) <|
  OkT.cons (ok_retI hr (by decide +kernel)) <|
  OkT.nil⟩
def T_X9_type (ex : Ex) : Tb := [(0, oAld 0 1), (1, pS (fPush (.int 0)) 1), (2, oPutI 7 0), (5, oIld 3 1), (6, pS (fPush (.int 1)) 1), (7, pS (fPush (.int 8)) 2), (9, oCallS ex 135 3), (12, oIf_ne 17), (15, pS (fPush (.int (-1))) 1), (16, oRetI), (17, oFg [4] (oAld 0 1)), (18, oGetI 7 3), (21, oIld 3 1), (22, pS (fB (fun x y => x + y)) 1), (23, pS (fPush (.int 300)) 3), (26, oIc_le 32), (29, pS (fPush (.int (-3))) 2), (31, oRetI), (32, oFg [4] (oIld 3 1)), (33, pS (fPush (.int 1)) 1), (34, pS (fB (fun x y => x - y)) 1), (35, oIst 4 2), (37, oFg [3] (oIld 4 2)), (39, oIf_lt 79), (42, oAld 0 1), (43, oGetA 7 1), (46, oAld 0 1), (47, oGetI 7 3), (50, oLld 1 1), (51, pS (fPush (.int 8)) 2), (53, oIld 4 2), (55, pS (fB (fun x y => x * y)) 1), (56, pS (fSL (fun x y => x >>> (y.toInt64 &&& 63))) 1), (57, pS (fPush (.long 255)) 3), (60, pS (fBL (fun x y => x &&& y)) 1), (61, pS fL2i 1), (62, oIast), (63, oAld 0 1), (64, pS fDup 1), (65, oGetI 7 3), (68, pS (fPush (.int 1)) 1), (69, pS (fB (fun x y => x + y)) 1), (70, oPutI 7 3), (73, oInc 4 (-1)), (76, oGoto 37), (79, oFg [1, 3, 4] (oAld 0 1)), (80, oGetI 7 3), (83, oRetI)]
set_option maxRecDepth 20000 in
theorem ta_X9_type : TabOk MIS T_X9_type mi_X9_type := ⟨by decide +kernel, fun l d ex hex p e R s m args below meth c cells slots ad D cI cZ A cx hR hA hr =>
  OkT.cons (ok_aload_n (kn := 0) rfl cx (by decide +kernel)) <|
  OkT.cons (ok_iconst (n := 0) cx (by decide +kernel) rfl) <|
  OkT.cons (ok_putI fp_RX9_69 (by decide) rfl cx (by decide +kernel)) <|
  OkT.cons (ok_iload_n (kn := 3) rfl cx (by decide +kernel)) <|
  OkT.cons (ok_iconst (n := 1) cx (by decide +kernel) rfl) <|
  OkT.cons (ok_bipush (n := 8) cx (by decide +kernel) rfl) <|
  OkT.cons (ok_callS hex rfl ca_RX9_72 hR hA cx (by decide +kernel)) <|
  OkT.cons (ok_If_ne (off := 5) (by decide) cx (by decide +kernel)) <|
  OkT.cons (ok_iconst (n := (-1)) cx (by decide +kernel) rfl) <|
  OkT.cons (ok_retI hr (by decide +kernel)) <|
  OkT.cons (ok_fg [4] (ok_aload_n (kn := 0) rfl cx (by decide +kernel))) <|
  OkT.cons (ok_getI fg_RX9_76 (by decide) rfl cx (by decide +kernel)) <|
  OkT.cons (ok_iload_n (kn := 3) rfl cx (by decide +kernel)) <|
  OkT.cons (ok_iadd cx (by decide +kernel)) <|
  OkT.cons (ok_sipush (n := 300) cx (by decide +kernel) rfl) <|
  OkT.cons (ok_Ic_le (off := 6) (by decide) cx (by decide +kernel)) <|
  OkT.cons (ok_bipush (n := (-3)) cx (by decide +kernel) rfl) <|
  OkT.cons (ok_retI hr (by decide +kernel)) <|
  OkT.cons (ok_fg [4] (ok_iload_n (kn := 3) rfl cx (by decide +kernel))) <|
  OkT.cons (ok_iconst (n := 1) cx (by decide +kernel) rfl) <|
  OkT.cons (ok_isub cx (by decide +kernel)) <|
  OkT.cons (ok_istore cx (by decide +kernel)) <|
  OkT.cons (ok_fg [3] (ok_iload cx (by decide +kernel))) <|
  OkT.cons (ok_If_lt (off := 40) (by decide) cx (by decide +kernel)) <|
  OkT.cons (ok_aload_n (kn := 0) rfl cx (by decide +kernel)) <|
  OkT.cons (ok_getA (k := 2) fg_RX9_7 (by decide) rfl cx (by decide +kernel)) <|
  OkT.cons (ok_aload_n (kn := 0) rfl cx (by decide +kernel)) <|
  OkT.cons (ok_getI fg_RX9_76 (by decide) rfl cx (by decide +kernel)) <|
  OkT.cons (ok_lload_n (kn := 1) rfl cx (by decide +kernel)) <|
  OkT.cons (ok_bipush (n := 8) cx (by decide +kernel) rfl) <|
  OkT.cons (ok_iload cx (by decide +kernel)) <|
  OkT.cons (ok_imul cx (by decide +kernel)) <|
  OkT.cons (ok_lshr cx (by decide +kernel)) <|
  OkT.cons (ok_ldc2 cx w_987 (by decide +kernel)) <|
  OkT.cons (ok_land cx (by decide +kernel)) <|
  OkT.cons (ok_l2i cx (by decide +kernel)) <|
  OkT.cons (ok_Iast cx (by decide +kernel)) <|
  OkT.cons (ok_aload_n (kn := 0) rfl cx (by decide +kernel)) <|
  OkT.cons (ok_dup cx (by decide +kernel)) <|
  OkT.cons (ok_getI fg_RX9_76 (by decide) rfl cx (by decide +kernel)) <|
  OkT.cons (ok_iconst (n := 1) cx (by decide +kernel) rfl) <|
  OkT.cons (ok_iadd cx (by decide +kernel)) <|
  OkT.cons (ok_putI fp_RX9_76 (by decide) rfl cx (by decide +kernel)) <|
  OkT.cons (ok_iinc (n := (-1)) rfl cx (by decide +kernel)) <|
  OkT.cons (ok_goto (off := (-39)) (by decide) cx (by decide +kernel)) <|
  OkT.cons (ok_fg [1, 3, 4] (ok_aload_n (kn := 0) rfl cx (by decide +kernel))) <|
  OkT.cons (ok_getI fg_RX9_76 (by decide) rfl cx (by decide +kernel)) <|
  OkT.cons (ok_retI hr (by decide +kernel)) <|
  OkT.nil⟩
def T_X9_clear (ex : Ex) : Tb := [(0, oAld 0 1), (1, pS (fPush (.int 0)) 1), (2, oPutI 7 0), (5, oAld 0 1), (6, oGetI 7 3), (9, oIst 1 1), (10, oAld 0 1), (11, pS (fPush (.int 0)) 1), (12, oPutI 7 3), (15, oIld 1 1), (16, oRetI)]
set_option maxRecDepth 20000 in
theorem ta_X9_clear : TabOk MIS T_X9_clear mi_X9_clear := ⟨by decide +kernel, fun l d ex hex p e R s m args below meth c cells slots ad D cI cZ A cx hR hA hr =>
  OkT.cons (ok_aload_n (kn := 0) rfl cx (by decide +kernel)) <|
  OkT.cons (ok_iconst (n := 0) cx (by decide +kernel) rfl) <|
  OkT.cons (ok_putI fp_RX9_69 (by decide) rfl cx (by decide +kernel)) <|
  OkT.cons (ok_aload_n (kn := 0) rfl cx (by decide +kernel)) <|
  OkT.cons (ok_getI fg_RX9_76 (by decide) rfl cx (by decide +kernel)) <|
  OkT.cons (ok_istore_n (kn := 1) rfl cx (by decide +kernel)) <|
  OkT.cons (ok_aload_n (kn := 0) rfl cx (by decide +kernel)) <|
  OkT.cons (ok_iconst (n := 0) cx (by decide +kernel) rfl) <|
  OkT.cons (ok_putI fp_RX9_76 (by decide) rfl cx (by decide +kernel)) <|
  OkT.cons (ok_iload_n (kn := 1) rfl cx (by decide +kernel)) <|
  OkT.cons (ok_retI hr (by decide +kernel)) <|
  OkT.nil⟩
def T_X9_byteAt (ex : Ex) : Tb := [(0, oIld 1 1), (1, oAld 0 1), (2, oGetI 7 3), (5, oIc_ge 17), (8, oAld 0 1), (9, oGetA 7 1), (12, oIld 1 1), (13, oIald), (14, oGoto 18), (17, oFg [0, 1] (pS (fPush (.int (-1))) 1)), (18, oFg [0, 1] (oRetI))]
set_option maxRecDepth 20000 in
theorem ta_X9_byteAt : TabOk MIS T_X9_byteAt mi_X9_byteAt := ⟨by decide +kernel, fun l d ex hex p e R s m args below meth c cells slots ad D cI cZ A cx hR hA hr =>
  OkT.cons (ok_iload_n (kn := 1) rfl cx (by decide +kernel)) <|
  OkT.cons (ok_aload_n (kn := 0) rfl cx (by decide +kernel)) <|
  OkT.cons (ok_getI fg_RX9_76 (by decide) rfl cx (by decide +kernel)) <|
  OkT.cons (ok_Ic_ge (off := 12) (by decide) cx (by decide +kernel)) <|
  OkT.cons (ok_aload_n (kn := 0) rfl cx (by decide +kernel)) <|
  OkT.cons (ok_getA (k := 2) fg_RX9_7 (by decide) rfl cx (by decide +kernel)) <|
  OkT.cons (ok_iload_n (kn := 1) rfl cx (by decide +kernel)) <|
  OkT.cons (ok_Iald cx (by decide +kernel)) <|
  OkT.cons (ok_goto (off := 4) (by decide) cx (by decide +kernel)) <|
  OkT.cons (ok_fg [0, 1] (ok_iconst (n := (-1)) cx (by decide +kernel) rfl)) <|
  OkT.cons (ok_fg [0, 1] (ok_retI hr (by decide +kernel))) <|
  OkT.nil⟩
def T_X9_add (ex : Ex) : Tb := [(0, oIld 2 1), (1, oIf_ne 8), (4, oLld 0 1), (5, oGoto 16), (8, pS (fPush (.long 256)) 3), (11, oLld 0 1), (12, pS (fBL (fun x y => x * y)) 1), (13, oIld 2 1), (14, pS fI2l 1), (15, pS (fBL (fun x y => x + y)) 1), (16, oFg [0, 2] (oRetL))]
set_option maxRecDepth 20000 in
theorem ta_X9_add : TabOk MIS T_X9_add mi_X9_add := ⟨by decide +kernel, fun l d ex hex p e R s m args below meth c cells slots ad D cI cZ A cx hR hA hr =>
  OkT.cons (ok_iload_n (kn := 2) rfl cx (by decide +kernel)) <|
  OkT.cons (ok_If_ne (off := 7) (by decide) cx (by decide +kernel)) <|
  OkT.cons (ok_lload_n (kn := 0) rfl cx (by decide +kernel)) <|
  OkT.cons (ok_goto (off := 11) (by decide) cx (by decide +kernel)) <|
  OkT.cons (ok_ldc2 cx w_1007 (by decide +kernel)) <|
  OkT.cons (ok_lload_n (kn := 0) rfl cx (by decide +kernel)) <|
  OkT.cons (ok_lmul cx (by decide +kernel)) <|
  OkT.cons (ok_iload_n (kn := 2) rfl cx (by decide +kernel)) <|
  OkT.cons (ok_i2l cx (by decide +kernel)) <|
  OkT.cons (ok_ladd cx (by decide +kernel)) <|
  OkT.cons (ok_fg [0, 2] (ok_retL hr (by decide +kernel))) <|
  OkT.nil⟩
def T_X9_named (ex : Ex) : Tb := [(0, pS (fPush (.long 0)) 1), (1, oIld 0 1), (2, oCallS ex 140 2), (5, oIld 1 1), (6, oCallS ex 140 2), (9, oIld 2 1), (10, oCallS ex 140 2), (13, oIld 3 1), (14, oCallS ex 140 2), (17, oIld 4 2), (19, oCallS ex 140 2), (22, oRetL)]
set_option maxRecDepth 20000 in
theorem ta_X9_named : TabOk MIS T_X9_named mi_X9_named := ⟨by decide +kernel, fun l d ex hex p e R s m args below meth c cells slots ad D cI cZ A cx hR hA hr =>
  OkT.cons (ok_lconst (n := 0) cx (by decide +kernel) rfl) <|
  OkT.cons (ok_iload_n (kn := 0) rfl cx (by decide +kernel)) <|
  OkT.cons (ok_callS hex rfl ca_RX9_83 hR hA cx (by decide +kernel)) <|
  OkT.cons (ok_iload_n (kn := 1) rfl cx (by decide +kernel)) <|
  OkT.cons (ok_callS hex rfl ca_RX9_83 hR hA cx (by decide +kernel)) <|
  OkT.cons (ok_iload_n (kn := 2) rfl cx (by decide +kernel)) <|
  OkT.cons (ok_callS hex rfl ca_RX9_83 hR hA cx (by decide +kernel)) <|
  OkT.cons (ok_iload_n (kn := 3) rfl cx (by decide +kernel)) <|
  OkT.cons (ok_callS hex rfl ca_RX9_83 hR hA cx (by decide +kernel)) <|
  OkT.cons (ok_iload cx (by decide +kernel)) <|
  OkT.cons (ok_callS hex rfl ca_RX9_83 hR hA cx (by decide +kernel)) <|
  OkT.cons (ok_retL hr (by decide +kernel)) <|
  OkT.nil⟩
def T_X9_wordOf (ex : Ex) : Tb := [(0, oLld 0 1), (1, pS (fPush (.int 115)) 2), (3, pS (fPush (.int 112)) 2), (5, pS (fPush (.int 101)) 2), (7, pS (fPush (.int 108)) 2), (9, pS (fPush (.int 108)) 2), (11, oCallS ex 141 5), (14, pS fCmp 1), (15, oIf_ne 22), (18, pS (fPush (.int 0)) 1), (19, oGoto 68), (22, oFg [2, 3] (oLld 0 1)), (23, pS (fPush (.int 116)) 2), (25, pS (fPush (.int 104)) 2), (27, pS (fPush (.int 105)) 2), (29, pS (fPush (.int 110)) 2), (31, pS (fPush (.int 103)) 2), (33, oCallS ex 141 5), (36, pS fCmp 1), (37, oIf_ne 44), (40, pS (fPush (.int 1)) 1), (41, oGoto 68), (44, oFg [2, 3] (oLld 0 1)), (45, pS (fPush (.int 112)) 2), (47, pS (fPush (.int 117)) 2), (49, pS (fPush (.int 112)) 2), (51, pS (fPush (.int 105)) 2), (53, pS (fPush (.int 108)) 2), (55, oCallS ex 141 5), (58, pS fCmp 1), (59, oIf_ne 66), (62, pS (fPush (.int 2)) 1), (63, oGoto 68), (66, oFg [2, 3] (pS (fPush (.int (-9))) 2)), (68, oFg [2, 3] (oIst 2 1)), (69, oLld 0 1), (70, pS (fPush (.int 115)) 2), (72, pS (fPush (.int 119)) 2), (74, pS (fPush (.int 97)) 2), (76, pS (fPush (.int 112)) 2), (78, pS (fPush (.int 0)) 1), (79, oCallS ex 141 5), (82, pS fCmp 1), (83, oIf_ne 90), (86, pS (fPush (.int 3)) 1), (87, oGoto 112), (90, oFg [3] (oLld 0 1)), (91, pS (fPush (.int 99)) 2), (93, pS (fPush (.int 111)) 2), (95, pS (fPush (.int 112)) 2), (97, pS (fPush (.int 121)) 2), (99, pS (fPush (.int 0)) 1), (100, oCallS ex 141 5), (103, pS fCmp 1), (104, oIf_ne 111), (107, pS (fPush (.int 4)) 1), (108, oGoto 112), (111, oFg [3] (oIld 2 1)), (112, oFg [2, 3] (oIst 3 1)), (113, oLld 0 1), (114, pS (fPush (.int 104)) 2), (116, pS (fPush (.int 117)) 2), (118, pS (fPush (.int 109)) 2), (120, pS (fPush (.int 0)) 1), (121, pS (fPush (.int 0)) 1), (122, oCallS ex 141 5), (125, pS fCmp 1), (126, oIf_ne 133), (129, pS (fPush (.int 5)) 1), (130, oGoto 134), (133, oFg [0, 2] (oIld 3 1)), (134, oFg [0, 2, 3] (oRetI))]
set_option maxRecDepth 20000 in
theorem ta_X9_wordOf : TabOk MIS T_X9_wordOf mi_X9_wordOf := ⟨by decide +kernel, fun l d ex hex p e R s m args below meth c cells slots ad D cI cZ A cx hR hA hr =>
  OkT.cons (ok_lload_n (kn := 0) rfl cx (by decide +kernel)) <|
  OkT.cons (ok_bipush (n := 115) cx (by decide +kernel) rfl) <|
  OkT.cons (ok_bipush (n := 112) cx (by decide +kernel) rfl) <|
  OkT.cons (ok_bipush (n := 101) cx (by decide +kernel) rfl) <|
  OkT.cons (ok_bipush (n := 108) cx (by decide +kernel) rfl) <|
  OkT.cons (ok_bipush (n := 108) cx (by decide +kernel) rfl) <|
  OkT.cons (ok_callS hex rfl ca_RX9_87 hR hA cx (by decide +kernel)) <|
  OkT.cons (ok_lcmp cx (by decide +kernel)) <|
  OkT.cons (ok_If_ne (off := 7) (by decide) cx (by decide +kernel)) <|
  OkT.cons (ok_iconst (n := 0) cx (by decide +kernel) rfl) <|
  OkT.cons (ok_goto (off := 49) (by decide) cx (by decide +kernel)) <|
  OkT.cons (ok_fg [2, 3] (ok_lload_n (kn := 0) rfl cx (by decide +kernel))) <|
  OkT.cons (ok_bipush (n := 116) cx (by decide +kernel) rfl) <|
  OkT.cons (ok_bipush (n := 104) cx (by decide +kernel) rfl) <|
  OkT.cons (ok_bipush (n := 105) cx (by decide +kernel) rfl) <|
  OkT.cons (ok_bipush (n := 110) cx (by decide +kernel) rfl) <|
  OkT.cons (ok_bipush (n := 103) cx (by decide +kernel) rfl) <|
  OkT.cons (ok_callS hex rfl ca_RX9_87 hR hA cx (by decide +kernel)) <|
  OkT.cons (ok_lcmp cx (by decide +kernel)) <|
  OkT.cons (ok_If_ne (off := 7) (by decide) cx (by decide +kernel)) <|
  OkT.cons (ok_iconst (n := 1) cx (by decide +kernel) rfl) <|
  OkT.cons (ok_goto (off := 27) (by decide) cx (by decide +kernel)) <|
  OkT.cons (ok_fg [2, 3] (ok_lload_n (kn := 0) rfl cx (by decide +kernel))) <|
  OkT.cons (ok_bipush (n := 112) cx (by decide +kernel) rfl) <|
  OkT.cons (ok_bipush (n := 117) cx (by decide +kernel) rfl) <|
  OkT.cons (ok_bipush (n := 112) cx (by decide +kernel) rfl) <|
  OkT.cons (ok_bipush (n := 105) cx (by decide +kernel) rfl) <|
  OkT.cons (ok_bipush (n := 108) cx (by decide +kernel) rfl) <|
  OkT.cons (ok_callS hex rfl ca_RX9_87 hR hA cx (by decide +kernel)) <|
  OkT.cons (ok_lcmp cx (by decide +kernel)) <|
  OkT.cons (ok_If_ne (off := 7) (by decide) cx (by decide +kernel)) <|
  OkT.cons (ok_iconst (n := 2) cx (by decide +kernel) rfl) <|
  OkT.cons (ok_goto (off := 5) (by decide) cx (by decide +kernel)) <|
  OkT.cons (ok_fg [2, 3] (ok_bipush (n := (-9)) cx (by decide +kernel) rfl)) <|
  OkT.cons (ok_fg [2, 3] (ok_istore_n (kn := 2) rfl cx (by decide +kernel))) <|
  OkT.cons (ok_lload_n (kn := 0) rfl cx (by decide +kernel)) <|
  OkT.cons (ok_bipush (n := 115) cx (by decide +kernel) rfl) <|
  OkT.cons (ok_bipush (n := 119) cx (by decide +kernel) rfl) <|
  OkT.cons (ok_bipush (n := 97) cx (by decide +kernel) rfl) <|
  OkT.cons (ok_bipush (n := 112) cx (by decide +kernel) rfl) <|
  OkT.cons (ok_iconst (n := 0) cx (by decide +kernel) rfl) <|
  OkT.cons (ok_callS hex rfl ca_RX9_87 hR hA cx (by decide +kernel)) <|
  OkT.cons (ok_lcmp cx (by decide +kernel)) <|
  OkT.cons (ok_If_ne (off := 7) (by decide) cx (by decide +kernel)) <|
  OkT.cons (ok_iconst (n := 3) cx (by decide +kernel) rfl) <|
  OkT.cons (ok_goto (off := 25) (by decide) cx (by decide +kernel)) <|
  OkT.cons (ok_fg [3] (ok_lload_n (kn := 0) rfl cx (by decide +kernel))) <|
  OkT.cons (ok_bipush (n := 99) cx (by decide +kernel) rfl) <|
  OkT.cons (ok_bipush (n := 111) cx (by decide +kernel) rfl) <|
  OkT.cons (ok_bipush (n := 112) cx (by decide +kernel) rfl) <|
  OkT.cons (ok_bipush (n := 121) cx (by decide +kernel) rfl) <|
  OkT.cons (ok_iconst (n := 0) cx (by decide +kernel) rfl) <|
  OkT.cons (ok_callS hex rfl ca_RX9_87 hR hA cx (by decide +kernel)) <|
  OkT.cons (ok_lcmp cx (by decide +kernel)) <|
  OkT.cons (ok_If_ne (off := 7) (by decide) cx (by decide +kernel)) <|
  OkT.cons (ok_iconst (n := 4) cx (by decide +kernel) rfl) <|
  OkT.cons (ok_goto (off := 4) (by decide) cx (by decide +kernel)) <|
  OkT.cons (ok_fg [3] (ok_iload_n (kn := 2) rfl cx (by decide +kernel))) <|
  OkT.cons (ok_fg [2, 3] (ok_istore_n (kn := 3) rfl cx (by decide +kernel))) <|
  OkT.cons (ok_lload_n (kn := 0) rfl cx (by decide +kernel)) <|
  OkT.cons (ok_bipush (n := 104) cx (by decide +kernel) rfl) <|
  OkT.cons (ok_bipush (n := 117) cx (by decide +kernel) rfl) <|
  OkT.cons (ok_bipush (n := 109) cx (by decide +kernel) rfl) <|
  OkT.cons (ok_iconst (n := 0) cx (by decide +kernel) rfl) <|
  OkT.cons (ok_iconst (n := 0) cx (by decide +kernel) rfl) <|
  OkT.cons (ok_callS hex rfl ca_RX9_87 hR hA cx (by decide +kernel)) <|
  OkT.cons (ok_lcmp cx (by decide +kernel)) <|
  OkT.cons (ok_If_ne (off := 7) (by decide) cx (by decide +kernel)) <|
  OkT.cons (ok_iconst (n := 5) cx (by decide +kernel) rfl) <|
  OkT.cons (ok_goto (off := 4) (by decide) cx (by decide +kernel)) <|
  OkT.cons (ok_fg [0, 2] (ok_iload_n (kn := 3) rfl cx (by decide +kernel))) <|
  OkT.cons (ok_fg [0, 2, 3] (ok_retI hr (by decide +kernel))) <|
  OkT.nil⟩
def T_X9_advances (ex : Ex) : Tb := [(0, oFg [1, 2] (oAld 0 1)), (1, oAld 0 1), (2, oGetI 7 4), (5, oCallV ex 139 1 7), (8, pS (fPush (.int 32)) 2), (10, oIc_ne 26), (13, oAld 0 1), (14, pS fDup 1), (15, oGetI 7 4), (18, pS (fPush (.int 1)) 1), (19, pS (fB (fun x y => x + y)) 1), (20, oPutI 7 4), (23, oGoto 0), (26, oFg [1, 2] (oAld 0 1)), (27, oAld 0 1), (28, oGetI 7 4), (31, oPutI 7 6), (34, oAld 0 1), (35, oAld 0 1), (36, oGetI 7 4), (39, oCallV ex 139 1 7), (42, oIst 1 1), (43, oIld 1 1), (44, oIf_ge 55), (47, oAld 0 1), (48, pS (fPush (.int 0)) 1), (49, oPutI 7 5), (52, oGoto 310), (55, oFg [2] (oIld 1 1)), (56, pS (fPush (.int 97)) 2), (58, pS (fPush (.int 122)) 2), (60, oCallS ex 135 3), (63, oIf_eq 159), (66, pS (fPush (.long 0)) 1), (67, oLst 2 1), (68, oFg [1] (oAld 0 1)), (69, oAld 0 1), (70, oGetI 7 4), (73, oCallV ex 139 1 7), (76, pS (fPush (.int 97)) 2), (78, pS (fPush (.int 122)) 2), (80, oCallS ex 135 3), (83, oIf_eq 130), (86, oAld 0 1), (87, oGetI 7 4), (90, oAld 0 1), (91, oGetI 7 6), (94, pS (fB (fun x y => x - y)) 1), (95, pS (fPush (.int 6)) 2), (97, oIc_ge 115), (100, oLld 2 1), (101, oAld 0 1), (102, oAld 0 1), (103, oGetI 7 4), (106, oCallV ex 139 1 7), (109, oCallS ex 140 2), (112, oGoto 116), (115, oFg [1] (oLld 2 1)), (116, oFg [1, 2] (oLst 2 1)), (117, oAld 0 1), (118, pS fDup 1), (119, oGetI 7 4), (122, pS (fPush (.int 1)) 1), (123, pS (fB (fun x y => x + y)) 1), (124, oPutI 7 4), (127, oGoto 68), (130, oFg [1] (oAld 0 1)), (131, oLld 2 1), (132, oCallS ex 142 1), (135, oPutI 7 7), (138, oAld 0 1), (139, oAld 0 1), (140, oGetI 7 7), (143, pS (fPush (.int (-9))) 2), (145, oIc_ne 152), (148, pS (fPush (.int 4)) 1), (149, oGoto 153), (152, oFg [0, 1, 2] (pS (fPush (.int 1)) 1)), (153, oFg [0, 1, 2] (oPutI 7 5)), (156, oGoto 310), (159, oFg [2] (oIld 1 1)), (160, pS (fPush (.int 48)) 2), (162, pS (fPush (.int 57)) 2), (164, oCallS ex 135 3), (167, oIf_eq 285), (170, oAld 0 1), (171, pS (fPush (.int 0)) 1), (172, oPutI 7 7), (175, oFg [2] (oAld 0 1)), (176, oAld 0 1), (177, oGetI 7 4), (180, oCallV ex 139 1 7), (183, pS (fPush (.int 48)) 2), (185, pS (fPush (.int 57)) 2), (187, oCallS ex 135 3), (190, oIf_eq 245), (193, oAld 0 1), (194, oAld 0 1), (195, oGetI 7 7), (198, pS (fPush (.int 99)) 2), (200, oIc_le 210), (203, oAld 0 1), (204, oGetI 7 7), (207, oGoto 229), (210, oFg [2] (pS (fPush (.int 10)) 2)), (212, oAld 0 1), (213, oGetI 7 7), (216, pS (fB (fun x y => x * y)) 1), (217, oAld 0 1), (218, oAld 0 1), (219, oGetI 7 4), (222, oCallV ex 139 1 7), (225, pS (fB (fun x y => x + y)) 1), (226, pS (fPush (.int 48)) 2), (228, pS (fB (fun x y => x - y)) 1), (229, oFg [2] (oPutI 7 7)), (232, oAld 0 1), (233, pS fDup 1), (234, oGetI 7 4), (237, pS (fPush (.int 1)) 1), (238, pS (fB (fun x y => x + y)) 1), (239, oPutI 7 4), (242, oGoto 175), (245, oFg [2] (oAld 0 1)), (246, oAld 0 1), (247, oGetI 7 7), (250, pS (fPush (.int 99)) 2), (252, oIc_gt 274), (255, oIld 1 1), (256, pS (fPush (.int 48)) 2), (258, oIc_ne 278), (261, oAld 0 1), (262, oGetI 7 4), (265, oAld 0 1), (266, oGetI 7 6), (269, pS (fB (fun x y => x - y)) 1), (270, pS (fPush (.int 1)) 1), (271, oIc_le 278), (274, oFg [0, 1, 2] (pS (fPush (.int 4)) 1)), (275, oGoto 279), (278, oFg [0, 1, 2] (pS (fPush (.int 2)) 1)), (279, oFg [0, 1, 2] (oPutI 7 5)), (282, oGoto 310), (285, oFg [2] (oAld 0 1)), (286, pS fDup 1), (287, oGetI 7 4), (290, pS (fPush (.int 1)) 1), (291, pS (fB (fun x y => x + y)) 1), (292, oPutI 7 4), (295, oAld 0 1), (296, oIld 1 1), (297, pS (fPush (.int 59)) 2), (299, oIc_ne 306), (302, pS (fPush (.int 3)) 1), (303, oGoto 307), (306, oFg [0, 1, 2] (pS (fPush (.int 4)) 1)), (307, oFg [0, 1, 2] (oPutI 7 5)), (310, oFg [0, 1, 2] (oRetV))]
set_option maxRecDepth 20000 in
theorem ta_X9_advances : TabOk MIS T_X9_advances mi_X9_advances := ⟨by decide +kernel, fun l d ex hex p e R s m args below meth c cells slots ad D cI cZ A cx hR hA hr =>
  OkT.cons (ok_fg [1, 2] (ok_aload_n (kn := 0) rfl cx (by decide +kernel))) <|
  OkT.cons (ok_aload_n (kn := 0) rfl cx (by decide +kernel)) <|
  OkT.cons (ok_getI fg_RX9_91 (by decide) rfl cx (by decide +kernel)) <|
  OkT.cons (ok_callV hex rfl rfl (by decide) ca_RX9_94 hR hA cx (by decide +kernel)) <|
  OkT.cons (ok_bipush (n := 32) cx (by decide +kernel) rfl) <|
  OkT.cons (ok_Ic_ne (off := 16) (by decide) cx (by decide +kernel)) <|
  OkT.cons (ok_aload_n (kn := 0) rfl cx (by decide +kernel)) <|
  OkT.cons (ok_dup cx (by decide +kernel)) <|
  OkT.cons (ok_getI fg_RX9_91 (by decide) rfl cx (by decide +kernel)) <|
  OkT.cons (ok_iconst (n := 1) cx (by decide +kernel) rfl) <|
  OkT.cons (ok_iadd cx (by decide +kernel)) <|
  OkT.cons (ok_putI fp_RX9_91 (by decide) rfl cx (by decide +kernel)) <|
  OkT.cons (ok_goto (off := (-23)) (by decide) cx (by decide +kernel)) <|
  OkT.cons (ok_fg [1, 2] (ok_aload_n (kn := 0) rfl cx (by decide +kernel))) <|
  OkT.cons (ok_aload_n (kn := 0) rfl cx (by decide +kernel)) <|
  OkT.cons (ok_getI fg_RX9_91 (by decide) rfl cx (by decide +kernel)) <|
  OkT.cons (ok_putI fp_RX9_98 (by decide) rfl cx (by decide +kernel)) <|
  OkT.cons (ok_aload_n (kn := 0) rfl cx (by decide +kernel)) <|
  OkT.cons (ok_aload_n (kn := 0) rfl cx (by decide +kernel)) <|
  OkT.cons (ok_getI fg_RX9_91 (by decide) rfl cx (by decide +kernel)) <|
  OkT.cons (ok_callV hex rfl rfl (by decide) ca_RX9_94 hR hA cx (by decide +kernel)) <|
  OkT.cons (ok_istore_n (kn := 1) rfl cx (by decide +kernel)) <|
  OkT.cons (ok_iload_n (kn := 1) rfl cx (by decide +kernel)) <|
  OkT.cons (ok_If_ge (off := 11) (by decide) cx (by decide +kernel)) <|
  OkT.cons (ok_aload_n (kn := 0) rfl cx (by decide +kernel)) <|
  OkT.cons (ok_iconst (n := 0) cx (by decide +kernel) rfl) <|
  OkT.cons (ok_putI fp_RX9_101 (by decide) rfl cx (by decide +kernel)) <|
  OkT.cons (ok_goto (off := 258) (by decide) cx (by decide +kernel)) <|
  OkT.cons (ok_fg [2] (ok_iload_n (kn := 1) rfl cx (by decide +kernel))) <|
  OkT.cons (ok_bipush (n := 97) cx (by decide +kernel) rfl) <|
  OkT.cons (ok_bipush (n := 122) cx (by decide +kernel) rfl) <|
  OkT.cons (ok_callS hex rfl ca_RX9_72 hR hA cx (by decide +kernel)) <|
  OkT.cons (ok_If_eq (off := 96) (by decide) cx (by decide +kernel)) <|
  OkT.cons (ok_lconst (n := 0) cx (by decide +kernel) rfl) <|
  OkT.cons (ok_lstore_n (kn := 2) rfl cx (by decide +kernel)) <|
  OkT.cons (ok_fg [1] (ok_aload_n (kn := 0) rfl cx (by decide +kernel))) <|
  OkT.cons (ok_aload_n (kn := 0) rfl cx (by decide +kernel)) <|
  OkT.cons (ok_getI fg_RX9_91 (by decide) rfl cx (by decide +kernel)) <|
  OkT.cons (ok_callV hex rfl rfl (by decide) ca_RX9_94 hR hA cx (by decide +kernel)) <|
  OkT.cons (ok_bipush (n := 97) cx (by decide +kernel) rfl) <|
  OkT.cons (ok_bipush (n := 122) cx (by decide +kernel) rfl) <|
  OkT.cons (ok_callS hex rfl ca_RX9_72 hR hA cx (by decide +kernel)) <|
  OkT.cons (ok_If_eq (off := 47) (by decide) cx (by decide +kernel)) <|
  OkT.cons (ok_aload_n (kn := 0) rfl cx (by decide +kernel)) <|
  OkT.cons (ok_getI fg_RX9_91 (by decide) rfl cx (by decide +kernel)) <|
  OkT.cons (ok_aload_n (kn := 0) rfl cx (by decide +kernel)) <|
  OkT.cons (ok_getI fg_RX9_98 (by decide) rfl cx (by decide +kernel)) <|
  OkT.cons (ok_isub cx (by decide +kernel)) <|
  OkT.cons (ok_bipush (n := 6) cx (by decide +kernel) rfl) <|
  OkT.cons (ok_Ic_ge (off := 18) (by decide) cx (by decide +kernel)) <|
  OkT.cons (ok_lload_n (kn := 2) rfl cx (by decide +kernel)) <|
  OkT.cons (ok_aload_n (kn := 0) rfl cx (by decide +kernel)) <|
  OkT.cons (ok_aload_n (kn := 0) rfl cx (by decide +kernel)) <|
  OkT.cons (ok_getI fg_RX9_91 (by decide) rfl cx (by decide +kernel)) <|
  OkT.cons (ok_callV hex rfl rfl (by decide) ca_RX9_94 hR hA cx (by decide +kernel)) <|
  OkT.cons (ok_callS hex rfl ca_RX9_83 hR hA cx (by decide +kernel)) <|
  OkT.cons (ok_goto (off := 4) (by decide) cx (by decide +kernel)) <|
  OkT.cons (ok_fg [1] (ok_lload_n (kn := 2) rfl cx (by decide +kernel))) <|
  OkT.cons (ok_fg [1, 2] (ok_lstore_n (kn := 2) rfl cx (by decide +kernel))) <|
  OkT.cons (ok_aload_n (kn := 0) rfl cx (by decide +kernel)) <|
  OkT.cons (ok_dup cx (by decide +kernel)) <|
  OkT.cons (ok_getI fg_RX9_91 (by decide) rfl cx (by decide +kernel)) <|
  OkT.cons (ok_iconst (n := 1) cx (by decide +kernel) rfl) <|
  OkT.cons (ok_iadd cx (by decide +kernel)) <|
  OkT.cons (ok_putI fp_RX9_91 (by decide) rfl cx (by decide +kernel)) <|
  OkT.cons (ok_goto (off := (-59)) (by decide) cx (by decide +kernel)) <|
  OkT.cons (ok_fg [1] (ok_aload_n (kn := 0) rfl cx (by decide +kernel))) <|
  OkT.cons (ok_lload_n (kn := 2) rfl cx (by decide +kernel)) <|
  OkT.cons (ok_callS hex rfl ca_RX9_104 hR hA cx (by decide +kernel)) <|
  OkT.cons (ok_putI fp_RX9_108 (by decide) rfl cx (by decide +kernel)) <|
  OkT.cons (ok_aload_n (kn := 0) rfl cx (by decide +kernel)) <|
  OkT.cons (ok_aload_n (kn := 0) rfl cx (by decide +kernel)) <|
  OkT.cons (ok_getI fg_RX9_108 (by decide) rfl cx (by decide +kernel)) <|
  OkT.cons (ok_bipush (n := (-9)) cx (by decide +kernel) rfl) <|
  OkT.cons (ok_Ic_ne (off := 7) (by decide) cx (by decide +kernel)) <|
  OkT.cons (ok_iconst (n := 4) cx (by decide +kernel) rfl) <|
  OkT.cons (ok_goto (off := 4) (by decide) cx (by decide +kernel)) <|
  OkT.cons (ok_fg [0, 1, 2] (ok_iconst (n := 1) cx (by decide +kernel) rfl)) <|
  OkT.cons (ok_fg [0, 1, 2] (ok_putI fp_RX9_101 (by decide) rfl cx (by decide +kernel))) <|
  OkT.cons (ok_goto (off := 154) (by decide) cx (by decide +kernel)) <|
  OkT.cons (ok_fg [2] (ok_iload_n (kn := 1) rfl cx (by decide +kernel))) <|
  OkT.cons (ok_bipush (n := 48) cx (by decide +kernel) rfl) <|
  OkT.cons (ok_bipush (n := 57) cx (by decide +kernel) rfl) <|
  OkT.cons (ok_callS hex rfl ca_RX9_72 hR hA cx (by decide +kernel)) <|
  OkT.cons (ok_If_eq (off := 118) (by decide) cx (by decide +kernel)) <|
  OkT.cons (ok_aload_n (kn := 0) rfl cx (by decide +kernel)) <|
  OkT.cons (ok_iconst (n := 0) cx (by decide +kernel) rfl) <|
  OkT.cons (ok_putI fp_RX9_108 (by decide) rfl cx (by decide +kernel)) <|
  OkT.cons (ok_fg [2] (ok_aload_n (kn := 0) rfl cx (by decide +kernel))) <|
  OkT.cons (ok_aload_n (kn := 0) rfl cx (by decide +kernel)) <|
  OkT.cons (ok_getI fg_RX9_91 (by decide) rfl cx (by decide +kernel)) <|
  OkT.cons (ok_callV hex rfl rfl (by decide) ca_RX9_94 hR hA cx (by decide +kernel)) <|
  OkT.cons (ok_bipush (n := 48) cx (by decide +kernel) rfl) <|
  OkT.cons (ok_bipush (n := 57) cx (by decide +kernel) rfl) <|
  OkT.cons (ok_callS hex rfl ca_RX9_72 hR hA cx (by decide +kernel)) <|
  OkT.cons (ok_If_eq (off := 55) (by decide) cx (by decide +kernel)) <|
  OkT.cons (ok_aload_n (kn := 0) rfl cx (by decide +kernel)) <|
  OkT.cons (ok_aload_n (kn := 0) rfl cx (by decide +kernel)) <|
  OkT.cons (ok_getI fg_RX9_108 (by decide) rfl cx (by decide +kernel)) <|
  OkT.cons (ok_bipush (n := 99) cx (by decide +kernel) rfl) <|
  OkT.cons (ok_Ic_le (off := 10) (by decide) cx (by decide +kernel)) <|
  OkT.cons (ok_aload_n (kn := 0) rfl cx (by decide +kernel)) <|
  OkT.cons (ok_getI fg_RX9_108 (by decide) rfl cx (by decide +kernel)) <|
  OkT.cons (ok_goto (off := 22) (by decide) cx (by decide +kernel)) <|
  OkT.cons (ok_fg [2] (ok_bipush (n := 10) cx (by decide +kernel) rfl)) <|
  OkT.cons (ok_aload_n (kn := 0) rfl cx (by decide +kernel)) <|
  OkT.cons (ok_getI fg_RX9_108 (by decide) rfl cx (by decide +kernel)) <|
  OkT.cons (ok_imul cx (by decide +kernel)) <|
  OkT.cons (ok_aload_n (kn := 0) rfl cx (by decide +kernel)) <|
  OkT.cons (ok_aload_n (kn := 0) rfl cx (by decide +kernel)) <|
  OkT.cons (ok_getI fg_RX9_91 (by decide) rfl cx (by decide +kernel)) <|
  OkT.cons (ok_callV hex rfl rfl (by decide) ca_RX9_94 hR hA cx (by decide +kernel)) <|
  OkT.cons (ok_iadd cx (by decide +kernel)) <|
  OkT.cons (ok_bipush (n := 48) cx (by decide +kernel) rfl) <|
  OkT.cons (ok_isub cx (by decide +kernel)) <|
  OkT.cons (ok_fg [2] (ok_putI fp_RX9_108 (by decide) rfl cx (by decide +kernel))) <|
  OkT.cons (ok_aload_n (kn := 0) rfl cx (by decide +kernel)) <|
  OkT.cons (ok_dup cx (by decide +kernel)) <|
  OkT.cons (ok_getI fg_RX9_91 (by decide) rfl cx (by decide +kernel)) <|
  OkT.cons (ok_iconst (n := 1) cx (by decide +kernel) rfl) <|
  OkT.cons (ok_iadd cx (by decide +kernel)) <|
  OkT.cons (ok_putI fp_RX9_91 (by decide) rfl cx (by decide +kernel)) <|
  OkT.cons (ok_goto (off := (-67)) (by decide) cx (by decide +kernel)) <|
  OkT.cons (ok_fg [2] (ok_aload_n (kn := 0) rfl cx (by decide +kernel))) <|
  OkT.cons (ok_aload_n (kn := 0) rfl cx (by decide +kernel)) <|
  OkT.cons (ok_getI fg_RX9_108 (by decide) rfl cx (by decide +kernel)) <|
  OkT.cons (ok_bipush (n := 99) cx (by decide +kernel) rfl) <|
  OkT.cons (ok_Ic_gt (off := 22) (by decide) cx (by decide +kernel)) <|
  OkT.cons (ok_iload_n (kn := 1) rfl cx (by decide +kernel)) <|
  OkT.cons (ok_bipush (n := 48) cx (by decide +kernel) rfl) <|
  OkT.cons (ok_Ic_ne (off := 20) (by decide) cx (by decide +kernel)) <|
  OkT.cons (ok_aload_n (kn := 0) rfl cx (by decide +kernel)) <|
  OkT.cons (ok_getI fg_RX9_91 (by decide) rfl cx (by decide +kernel)) <|
  OkT.cons (ok_aload_n (kn := 0) rfl cx (by decide +kernel)) <|
  OkT.cons (ok_getI fg_RX9_98 (by decide) rfl cx (by decide +kernel)) <|
  OkT.cons (ok_isub cx (by decide +kernel)) <|
  OkT.cons (ok_iconst (n := 1) cx (by decide +kernel) rfl) <|
  OkT.cons (ok_Ic_le (off := 7) (by decide) cx (by decide +kernel)) <|
  OkT.cons (ok_fg [0, 1, 2] (ok_iconst (n := 4) cx (by decide +kernel) rfl)) <|
  OkT.cons (ok_goto (off := 4) (by decide) cx (by decide +kernel)) <|
  OkT.cons (ok_fg [0, 1, 2] (ok_iconst (n := 2) cx (by decide +kernel) rfl)) <|
  OkT.cons (ok_fg [0, 1, 2] (ok_putI fp_RX9_101 (by decide) rfl cx (by decide +kernel))) <|
  OkT.cons (ok_goto (off := 28) (by decide) cx (by decide +kernel)) <|
  OkT.cons (ok_fg [2] (ok_aload_n (kn := 0) rfl cx (by decide +kernel))) <|
  OkT.cons (ok_dup cx (by decide +kernel)) <|
  OkT.cons (ok_getI fg_RX9_91 (by decide) rfl cx (by decide +kernel)) <|
  OkT.cons (ok_iconst (n := 1) cx (by decide +kernel) rfl) <|
  OkT.cons (ok_iadd cx (by decide +kernel)) <|
  OkT.cons (ok_putI fp_RX9_91 (by decide) rfl cx (by decide +kernel)) <|
  OkT.cons (ok_aload_n (kn := 0) rfl cx (by decide +kernel)) <|
  OkT.cons (ok_iload_n (kn := 1) rfl cx (by decide +kernel)) <|
  OkT.cons (ok_bipush (n := 59) cx (by decide +kernel) rfl) <|
  OkT.cons (ok_Ic_ne (off := 7) (by decide) cx (by decide +kernel)) <|
  OkT.cons (ok_iconst (n := 3) cx (by decide +kernel) rfl) <|
  OkT.cons (ok_goto (off := 4) (by decide) cx (by decide +kernel)) <|
  OkT.cons (ok_fg [0, 1, 2] (ok_iconst (n := 4) cx (by decide +kernel) rfl)) <|
  OkT.cons (ok_fg [0, 1, 2] (ok_putI fp_RX9_101 (by decide) rfl cx (by decide +kernel))) <|
  OkT.cons (ok_fg [0, 1, 2] (ok_retV hr (by decide +kernel))) <|
  OkT.nil⟩
def T_X9_isWell (ex : Ex) : Tb := [(0, oAld 0 1), (1, oGetI 7 8), (4, oIf_ge 11), (7, pS (fPush (.int 1)) 1), (8, oGoto 12), (11, oFg [0] (pS (fPush (.int 0)) 1)), (12, oFg [0] (oRetZ))]
set_option maxRecDepth 20000 in
theorem ta_X9_isWell : TabOk MIS T_X9_isWell mi_X9_isWell := ⟨by decide +kernel, fun l d ex hex p e R s m args below meth c cells slots ad D cI cZ A cx hR hA hr =>
  OkT.cons (ok_aload_n (kn := 0) rfl cx (by decide +kernel)) <|
  OkT.cons (ok_getI fg_RX9_111 (by decide) rfl cx (by decide +kernel)) <|
  OkT.cons (ok_If_ge (off := 7) (by decide) cx (by decide +kernel)) <|
  OkT.cons (ok_iconst (n := 1) cx (by decide +kernel) rfl) <|
  OkT.cons (ok_goto (off := 4) (by decide) cx (by decide +kernel)) <|
  OkT.cons (ok_fg [0] (ok_iconst (n := 0) cx (by decide +kernel) rfl)) <|
  OkT.cons (ok_fg [0] (ok_retZ hr (by decide +kernel))) <|
  OkT.nil⟩
def T_X9_takes (ex : Ex) : Tb := [(0, oAld 0 1), (1, oCallV ex 144 0 7), (4, oIf_ne 9), (7, pS (fPush (.int 0)) 1), (8, oRetI), (9, oFg [2] (oIld 1 1)), (10, oIf_ne 23), (13, oAld 0 1), (14, oAld 0 1), (15, oGetI 7 6), (18, oPutI 7 8), (21, pS (fPush (.int 0)) 1), (22, oRetI), (23, oFg [1, 2] (oAld 0 1)), (24, oGetI 7 7), (27, oIst 2 1), (28, oAld 0 1), (29, oCallV ex 143 0 7), (32, oIld 2 1), (33, oRetI)]
set_option maxRecDepth 20000 in
theorem ta_X9_takes : TabOk MIS T_X9_takes mi_X9_takes := ⟨by decide +kernel, fun l d ex hex p e R s m args below meth c cells slots ad D cI cZ A cx hR hA hr =>
  OkT.cons (ok_aload_n (kn := 0) rfl cx (by decide +kernel)) <|
  OkT.cons (ok_callV hex rfl rfl (by decide) ca_RX9_114 hR hA cx (by decide +kernel)) <|
  OkT.cons (ok_If_ne (off := 5) (by decide) cx (by decide +kernel)) <|
  OkT.cons (ok_iconst (n := 0) cx (by decide +kernel) rfl) <|
  OkT.cons (ok_retI hr (by decide +kernel)) <|
  OkT.cons (ok_fg [2] (ok_iload_n (kn := 1) rfl cx (by decide +kernel))) <|
  OkT.cons (ok_If_ne (off := 13) (by decide) cx (by decide +kernel)) <|
  OkT.cons (ok_aload_n (kn := 0) rfl cx (by decide +kernel)) <|
  OkT.cons (ok_aload_n (kn := 0) rfl cx (by decide +kernel)) <|
  OkT.cons (ok_getI fg_RX9_98 (by decide) rfl cx (by decide +kernel)) <|
  OkT.cons (ok_putI fp_RX9_111 (by decide) rfl cx (by decide +kernel)) <|
  OkT.cons (ok_iconst (n := 0) cx (by decide +kernel) rfl) <|
  OkT.cons (ok_retI hr (by decide +kernel)) <|
  OkT.cons (ok_fg [1, 2] (ok_aload_n (kn := 0) rfl cx (by decide +kernel))) <|
  OkT.cons (ok_getI fg_RX9_108 (by decide) rfl cx (by decide +kernel)) <|
  OkT.cons (ok_istore_n (kn := 2) rfl cx (by decide +kernel)) <|
  OkT.cons (ok_aload_n (kn := 0) rfl cx (by decide +kernel)) <|
  OkT.cons (ok_callV hex rfl rfl (by decide) ca_RX9_118 hR hA cx (by decide +kernel)) <|
  OkT.cons (ok_iload_n (kn := 2) rfl cx (by decide +kernel)) <|
  OkT.cons (ok_retI hr (by decide +kernel)) <|
  OkT.nil⟩
def T_X9_number (ex : Ex) : Tb := [(0, oAld 0 1), (1, oAld 0 1), (2, oGetI 7 5), (5, pS (fPush (.int 2)) 1), (6, oIc_ne 25), (9, oAld 0 1), (10, oGetI 7 7), (13, oIld 1 1), (14, oIld 2 1), (15, oCallS ex 135 3), (18, oIf_eq 25), (21, pS (fPush (.int 1)) 1), (22, oGoto 26), (25, oFg [0, 1, 2] (pS (fPush (.int 0)) 1)), (26, oFg [0, 1, 2] (oCallV ex 145 1 7)), (29, oRetI)]
set_option maxRecDepth 20000 in
theorem ta_X9_number : TabOk MIS T_X9_number mi_X9_number := ⟨by decide +kernel, fun l d ex hex p e R s m args below meth c cells slots ad D cI cZ A cx hR hA hr =>
  OkT.cons (ok_aload_n (kn := 0) rfl cx (by decide +kernel)) <|
  OkT.cons (ok_aload_n (kn := 0) rfl cx (by decide +kernel)) <|
  OkT.cons (ok_getI fg_RX9_101 (by decide) rfl cx (by decide +kernel)) <|
  OkT.cons (ok_iconst (n := 2) cx (by decide +kernel) rfl) <|
  OkT.cons (ok_Ic_ne (off := 19) (by decide) cx (by decide +kernel)) <|
  OkT.cons (ok_aload_n (kn := 0) rfl cx (by decide +kernel)) <|
  OkT.cons (ok_getI fg_RX9_108 (by decide) rfl cx (by decide +kernel)) <|
  OkT.cons (ok_iload_n (kn := 1) rfl cx (by decide +kernel)) <|
  OkT.cons (ok_iload_n (kn := 2) rfl cx (by decide +kernel)) <|
  OkT.cons (ok_callS hex rfl ca_RX9_72 hR hA cx (by decide +kernel)) <|
  OkT.cons (ok_If_eq (off := 7) (by decide) cx (by decide +kernel)) <|
  OkT.cons (ok_iconst (n := 1) cx (by decide +kernel) rfl) <|
  OkT.cons (ok_goto (off := 4) (by decide) cx (by decide +kernel)) <|
  OkT.cons (ok_fg [0, 1, 2] (ok_iconst (n := 0) cx (by decide +kernel) rfl)) <|
  OkT.cons (ok_fg [0, 1, 2] (ok_callV hex rfl rfl (by decide) ca_RX9_121 hR hA cx (by decide +kernel))) <|
  OkT.cons (ok_retI hr (by decide +kernel)) <|
  OkT.nil⟩
def T_X9_mayBegin (ex : Ex) : Tb := [(0, oAld 0 1), (1, oGetI 7 7), (4, pS (fPush (.int 3)) 1), (5, oIc_ge 69), (8, oAld 0 1), (9, oGetI 7 7), (12, oIf_ne 31), (15, oAld 0 1), (16, oGetI 7 16), (19, pS (fPush (.int 5)) 1), (20, oIc_ge 27), (23, pS (fPush (.int 1)) 1), (24, oGoto 68), (27, oFg [0] (pS (fPush (.int 0)) 1)), (28, oGoto 68), (31, oAld 0 1), (32, oGetI 7 7), (35, pS (fPush (.int 1)) 1), (36, oIc_ne 55), (39, oAld 0 1), (40, oGetI 7 17), (43, pS (fPush (.int 4)) 1), (44, oIc_ge 51), (47, pS (fPush (.int 1)) 1), (48, oGoto 68), (51, oFg [0] (pS (fPush (.int 0)) 1)), (52, oGoto 68), (55, oAld 0 1), (56, oGetI 7 18), (59, pS (fPush (.int 3)) 1), (60, oIc_ge 67), (63, pS (fPush (.int 1)) 1), (64, oGoto 68), (67, oFg [0] (pS (fPush (.int 0)) 1)), (68, oFg [0] (oRetZ)), (69, oAld 0 1), (70, oGetA 7 5), (73, pS (fPush (.int 6)) 2), (75, oAld 0 1), (76, oGetI 7 7), (79, pS (fB (fun x y => x + y)) 1), (80, oIald), (81, pS (fPush (.int (-9))) 2), (83, oIc_ne 90), (86, pS (fPush (.int 1)) 1), (87, oGoto 91), (90, oFg [0] (pS (fPush (.int 0)) 1)), (91, oFg [0] (oRetZ))]
set_option maxRecDepth 20000 in
theorem ta_X9_mayBegin : TabOk MIS T_X9_mayBegin mi_X9_mayBegin := ⟨by decide +kernel, fun l d ex hex p e R s m args below meth c cells slots ad D cI cZ A cx hR hA hr =>
  OkT.cons (ok_aload_n (kn := 0) rfl cx (by decide +kernel)) <|
  OkT.cons (ok_getI fg_RX9_108 (by decide) rfl cx (by decide +kernel)) <|
  OkT.cons (ok_iconst (n := 3) cx (by decide +kernel) rfl) <|
  OkT.cons (ok_Ic_ge (off := 64) (by decide) cx (by decide +kernel)) <|
  OkT.cons (ok_aload_n (kn := 0) rfl cx (by decide +kernel)) <|
  OkT.cons (ok_getI fg_RX9_108 (by decide) rfl cx (by decide +kernel)) <|
  OkT.cons (ok_If_ne (off := 19) (by decide) cx (by decide +kernel)) <|
  OkT.cons (ok_aload_n (kn := 0) rfl cx (by decide +kernel)) <|
  OkT.cons (ok_getI fg_RX9_125 (by decide) rfl cx (by decide +kernel)) <|
  OkT.cons (ok_iconst (n := 5) cx (by decide +kernel) rfl) <|
  OkT.cons (ok_Ic_ge (off := 7) (by decide) cx (by decide +kernel)) <|
  OkT.cons (ok_iconst (n := 1) cx (by decide +kernel) rfl) <|
  OkT.cons (ok_goto (off := 44) (by decide) cx (by decide +kernel)) <|
  OkT.cons (ok_fg [0] (ok_iconst (n := 0) cx (by decide +kernel) rfl)) <|
  OkT.cons (ok_goto (off := 40) (by decide) cx (by decide +kernel)) <|
  OkT.cons (ok_aload_n (kn := 0) rfl cx (by decide +kernel)) <|
  OkT.cons (ok_getI fg_RX9_108 (by decide) rfl cx (by decide +kernel)) <|
  OkT.cons (ok_iconst (n := 1) cx (by decide +kernel) rfl) <|
  OkT.cons (ok_Ic_ne (off := 19) (by decide) cx (by decide +kernel)) <|
  OkT.cons (ok_aload_n (kn := 0) rfl cx (by decide +kernel)) <|
  OkT.cons (ok_getI fg_RX9_128 (by decide) rfl cx (by decide +kernel)) <|
  OkT.cons (ok_iconst (n := 4) cx (by decide +kernel) rfl) <|
  OkT.cons (ok_Ic_ge (off := 7) (by decide) cx (by decide +kernel)) <|
  OkT.cons (ok_iconst (n := 1) cx (by decide +kernel) rfl) <|
  OkT.cons (ok_goto (off := 20) (by decide) cx (by decide +kernel)) <|
  OkT.cons (ok_fg [0] (ok_iconst (n := 0) cx (by decide +kernel) rfl)) <|
  OkT.cons (ok_goto (off := 16) (by decide) cx (by decide +kernel)) <|
  OkT.cons (ok_aload_n (kn := 0) rfl cx (by decide +kernel)) <|
  OkT.cons (ok_getI fg_RX9_131 (by decide) rfl cx (by decide +kernel)) <|
  OkT.cons (ok_iconst (n := 3) cx (by decide +kernel) rfl) <|
  OkT.cons (ok_Ic_ge (off := 7) (by decide) cx (by decide +kernel)) <|
  OkT.cons (ok_iconst (n := 1) cx (by decide +kernel) rfl) <|
  OkT.cons (ok_goto (off := 4) (by decide) cx (by decide +kernel)) <|
  OkT.cons (ok_fg [0] (ok_iconst (n := 0) cx (by decide +kernel) rfl)) <|
  OkT.cons (ok_fg [0] (ok_retZ hr (by decide +kernel))) <|
  OkT.cons (ok_aload_n (kn := 0) rfl cx (by decide +kernel)) <|
  OkT.cons (ok_getA (k := 12) fg_RX9_22 (by decide) rfl cx (by decide +kernel)) <|
  OkT.cons (ok_bipush (n := 6) cx (by decide +kernel) rfl) <|
  OkT.cons (ok_aload_n (kn := 0) rfl cx (by decide +kernel)) <|
  OkT.cons (ok_getI fg_RX9_108 (by decide) rfl cx (by decide +kernel)) <|
  OkT.cons (ok_iadd cx (by decide +kernel)) <|
  OkT.cons (ok_Iald cx (by decide +kernel)) <|
  OkT.cons (ok_bipush (n := (-9)) cx (by decide +kernel) rfl) <|
  OkT.cons (ok_Ic_ne (off := 7) (by decide) cx (by decide +kernel)) <|
  OkT.cons (ok_iconst (n := 1) cx (by decide +kernel) rfl) <|
  OkT.cons (ok_goto (off := 4) (by decide) cx (by decide +kernel)) <|
  OkT.cons (ok_fg [0] (ok_iconst (n := 0) cx (by decide +kernel) rfl)) <|
  OkT.cons (ok_fg [0] (ok_retZ hr (by decide +kernel))) <|
  OkT.nil⟩
def T_X9_readsItem (ex : Ex) : Tb := [(0, oIld 1 1), (1, oIf_ne 84), (4, pS (fPush (.int 20)) 2), (6, pS (fPush (.int 4)) 1), (7, oAld 0 1), (8, oGetI 7 16), (11, pS (fB (fun x y => x * y)) 1), (12, pS (fB (fun x y => x + y)) 1), (13, oIst 2 1), (14, oAld 0 1), (15, oGetA 7 2), (18, oIld 2 1), (19, oAld 0 1), (20, pS (fPush (.int 0)) 1), (21, pS (fPush (.int 9)) 2), (23, oCallV ex 146 2 7), (26, oIast), (27, oAld 0 1), (28, oGetA 7 2), (31, oIld 2 1), (32, pS (fPush (.int 1)) 1), (33, pS (fB (fun x y => x + y)) 1), (34, oAld 0 1), (35, pS (fPush (.int 0)) 1), (36, pS (fPush (.int 1)) 1), (37, oCallV ex 146 2 7), (40, oIast), (41, oAld 0 1), (42, oGetA 7 2), (45, oIld 2 1), (46, pS (fPush (.int 2)) 1), (47, pS (fB (fun x y => x + y)) 1), (48, oAld 0 1), (49, pS (fPush (.int 0)) 1), (50, pS (fPush (.int 9)) 2), (52, oCallV ex 146 2 7), (55, oIast), (56, oAld 0 1), (57, oGetA 7 2), (60, oIld 2 1), (61, pS (fPush (.int 3)) 1), (62, pS (fB (fun x y => x + y)) 1), (63, oAld 0 1), (64, pS (fPush (.int 0)) 1), (65, pS (fPush (.int 9)) 2), (67, oCallV ex 146 2 7), (70, oIast), (71, oAld 0 1), (72, pS fDup 1), (73, oGetI 7 16), (76, pS (fPush (.int 1)) 1), (77, pS (fB (fun x y => x + y)) 1), (78, oPutI 7 16), (81, oGoto 239), (84, oFg [2, 3] (oIld 1 1)), (85, pS (fPush (.int 1)) 1), (86, oIc_ne 163), (89, pS (fPush (.int 0)) 1), (90, oIst 2 1), (91, pS (fPush (.int 0)) 1), (92, oIst 3 1), (93, oFg [1] (oIld 3 1)), (94, pS (fPush (.int 5)) 1), (95, oIc_ge 138), (98, oAld 0 1), (99, oCallV ex 144 0 7), (102, oIf_eq 138), (105, oAld 0 1), (106, oGetI 7 5), (109, pS (fPush (.int 2)) 1), (110, oIc_ne 138), (113, pS (fPush (.int 6)) 2), (115, oIld 2 1), (116, pS (fB (fun x y => x * y)) 1), (117, pS (fPush (.int 1)) 1), (118, pS (fB (fun x y => x + y)) 1), (119, oAld 0 1), (120, pS (fPush (.int 0)) 1), (121, oAld 0 1), (122, oGetI 7 16), (125, pS (fPush (.int 1)) 1), (126, pS (fB (fun x y => x - y)) 1), (127, oCallV ex 146 2 7), (130, pS (fB (fun x y => x + y)) 1), (131, oIst 2 1), (132, oInc 3 1), (135, oGoto 93), (138, oFg [1, 3] (oAld 0 1)), (139, oGetA 7 3), (142, pS (fPush (.int 4)) 1), (143, oAld 0 1), (144, oGetI 7 17), (147, pS (fB (fun x y => x + y)) 1), (148, oIld 2 1), (149, oIast), (150, oAld 0 1), (151, pS fDup 1), (152, oGetI 7 17), (155, pS (fPush (.int 1)) 1), (156, pS (fB (fun x y => x + y)) 1), (157, oPutI 7 17), (160, oGoto 239), (163, oFg [2, 3] (oIld 1 1)), (164, pS (fPush (.int 2)) 1), (165, oIc_ne 205), (168, oAld 0 1), (169, oGetA 7 4), (172, pS (fPush (.int 3)) 1), (173, oAld 0 1), (174, oGetI 7 18), (177, pS (fB (fun x y => x + y)) 1), (178, oAld 0 1), (179, pS (fPush (.int 0)) 1), (180, pS (fPush (.int 1)) 1), (181, oAld 0 1), (182, oGetI 7 16), (185, pS (fB (fun x y => x <<< (y &&& 31))) 1), (186, pS (fPush (.int 1)) 1), (187, pS (fB (fun x y => x - y)) 1), (188, oCallV ex 146 2 7), (191, oIast), (192, oAld 0 1), (193, pS fDup 1), (194, oGetI 7 18), (197, pS (fPush (.int 1)) 1), (198, pS (fB (fun x y => x + y)) 1), (199, oPutI 7 18), (202, oGoto 239), (205, oFg [2, 3] (oAld 0 1)), (206, oGetA 7 5), (209, pS (fPush (.int 6)) 2), (211, oIld 1 1), (212, pS (fB (fun x y => x + y)) 1), (213, oAld 0 1), (214, oIld 1 1), (215, pS (fPush (.int 5)) 1), (216, oIc_ne 223), (219, pS (fPush (.int 1)) 1), (220, oGoto 224), (223, oFg [0, 2, 3] (pS (fPush (.int 0)) 1)), (224, oFg [0, 2, 3] (oIld 1 1)), (225, pS (fPush (.int 5)) 1), (226, oIc_ne 233), (229, pS (fPush (.int 5)) 1), (230, oGoto 235), (233, oFg [0, 1, 2, 3] (pS (fPush (.int 9)) 2)), (235, oFg [0, 1, 2, 3] (oCallV ex 146 2 7)), (238, oIast), (239, oFg [0, 1, 2, 3] (oRetV))]
set_option maxRecDepth 20000 in
theorem ta_X9_readsItem : TabOk MIS T_X9_readsItem mi_X9_readsItem := ⟨by decide +kernel, fun l d ex hex p e R s m args below meth c cells slots ad D cI cZ A cx hR hA hr =>
  OkT.cons (ok_iload_n (kn := 1) rfl cx (by decide +kernel)) <|
  OkT.cons (ok_If_ne (off := 83) (by decide) cx (by decide +kernel)) <|
  OkT.cons (ok_bipush (n := 20) cx (by decide +kernel) rfl) <|
  OkT.cons (ok_iconst (n := 4) cx (by decide +kernel) rfl) <|
  OkT.cons (ok_aload_n (kn := 0) rfl cx (by decide +kernel)) <|
  OkT.cons (ok_getI fg_RX9_125 (by decide) rfl cx (by decide +kernel)) <|
  OkT.cons (ok_imul cx (by decide +kernel)) <|
  OkT.cons (ok_iadd cx (by decide +kernel)) <|
  OkT.cons (ok_istore_n (kn := 2) rfl cx (by decide +kernel)) <|
  OkT.cons (ok_aload_n (kn := 0) rfl cx (by decide +kernel)) <|
  OkT.cons (ok_getA (k := 9) fg_RX9_13 (by decide) rfl cx (by decide +kernel)) <|
  OkT.cons (ok_iload_n (kn := 2) rfl cx (by decide +kernel)) <|
  OkT.cons (ok_aload_n (kn := 0) rfl cx (by decide +kernel)) <|
  OkT.cons (ok_iconst (n := 0) cx (by decide +kernel) rfl) <|
  OkT.cons (ok_bipush (n := 9) cx (by decide +kernel) rfl) <|
  OkT.cons (ok_callV hex rfl rfl (by decide) ca_RX9_134 hR hA cx (by decide +kernel)) <|
  OkT.cons (ok_Iast cx (by decide +kernel)) <|
  OkT.cons (ok_aload_n (kn := 0) rfl cx (by decide +kernel)) <|
  OkT.cons (ok_getA (k := 9) fg_RX9_13 (by decide) rfl cx (by decide +kernel)) <|
  OkT.cons (ok_iload_n (kn := 2) rfl cx (by decide +kernel)) <|
  OkT.cons (ok_iconst (n := 1) cx (by decide +kernel) rfl) <|
  OkT.cons (ok_iadd cx (by decide +kernel)) <|
  OkT.cons (ok_aload_n (kn := 0) rfl cx (by decide +kernel)) <|
  OkT.cons (ok_iconst (n := 0) cx (by decide +kernel) rfl) <|
  OkT.cons (ok_iconst (n := 1) cx (by decide +kernel) rfl) <|
  OkT.cons (ok_callV hex rfl rfl (by decide) ca_RX9_134 hR hA cx (by decide +kernel)) <|
  OkT.cons (ok_Iast cx (by decide +kernel)) <|
  OkT.cons (ok_aload_n (kn := 0) rfl cx (by decide +kernel)) <|
  OkT.cons (ok_getA (k := 9) fg_RX9_13 (by decide) rfl cx (by decide +kernel)) <|
  OkT.cons (ok_iload_n (kn := 2) rfl cx (by decide +kernel)) <|
  OkT.cons (ok_iconst (n := 2) cx (by decide +kernel) rfl) <|
  OkT.cons (ok_iadd cx (by decide +kernel)) <|
  OkT.cons (ok_aload_n (kn := 0) rfl cx (by decide +kernel)) <|
  OkT.cons (ok_iconst (n := 0) cx (by decide +kernel) rfl) <|
  OkT.cons (ok_bipush (n := 9) cx (by decide +kernel) rfl) <|
  OkT.cons (ok_callV hex rfl rfl (by decide) ca_RX9_134 hR hA cx (by decide +kernel)) <|
  OkT.cons (ok_Iast cx (by decide +kernel)) <|
  OkT.cons (ok_aload_n (kn := 0) rfl cx (by decide +kernel)) <|
  OkT.cons (ok_getA (k := 9) fg_RX9_13 (by decide) rfl cx (by decide +kernel)) <|
  OkT.cons (ok_iload_n (kn := 2) rfl cx (by decide +kernel)) <|
  OkT.cons (ok_iconst (n := 3) cx (by decide +kernel) rfl) <|
  OkT.cons (ok_iadd cx (by decide +kernel)) <|
  OkT.cons (ok_aload_n (kn := 0) rfl cx (by decide +kernel)) <|
  OkT.cons (ok_iconst (n := 0) cx (by decide +kernel) rfl) <|
  OkT.cons (ok_bipush (n := 9) cx (by decide +kernel) rfl) <|
  OkT.cons (ok_callV hex rfl rfl (by decide) ca_RX9_134 hR hA cx (by decide +kernel)) <|
  OkT.cons (ok_Iast cx (by decide +kernel)) <|
  OkT.cons (ok_aload_n (kn := 0) rfl cx (by decide +kernel)) <|
  OkT.cons (ok_dup cx (by decide +kernel)) <|
  OkT.cons (ok_getI fg_RX9_125 (by decide) rfl cx (by decide +kernel)) <|
  OkT.cons (ok_iconst (n := 1) cx (by decide +kernel) rfl) <|
  OkT.cons (ok_iadd cx (by decide +kernel)) <|
  OkT.cons (ok_putI fp_RX9_125 (by decide) rfl cx (by decide +kernel)) <|
  OkT.cons (ok_goto (off := 158) (by decide) cx (by decide +kernel)) <|
  OkT.cons (ok_fg [2, 3] (ok_iload_n (kn := 1) rfl cx (by decide +kernel))) <|
  OkT.cons (ok_iconst (n := 1) cx (by decide +kernel) rfl) <|
  OkT.cons (ok_Ic_ne (off := 77) (by decide) cx (by decide +kernel)) <|
  OkT.cons (ok_iconst (n := 0) cx (by decide +kernel) rfl) <|
  OkT.cons (ok_istore_n (kn := 2) rfl cx (by decide +kernel)) <|
  OkT.cons (ok_iconst (n := 0) cx (by decide +kernel) rfl) <|
  OkT.cons (ok_istore_n (kn := 3) rfl cx (by decide +kernel)) <|
  OkT.cons (ok_fg [1] (ok_iload_n (kn := 3) rfl cx (by decide +kernel))) <|
  OkT.cons (ok_iconst (n := 5) cx (by decide +kernel) rfl) <|
  OkT.cons (ok_Ic_ge (off := 43) (by decide) cx (by decide +kernel)) <|
  OkT.cons (ok_aload_n (kn := 0) rfl cx (by decide +kernel)) <|
  OkT.cons (ok_callV hex rfl rfl (by decide) ca_RX9_114 hR hA cx (by decide +kernel)) <|
  OkT.cons (ok_If_eq (off := 36) (by decide) cx (by decide +kernel)) <|
  OkT.cons (ok_aload_n (kn := 0) rfl cx (by decide +kernel)) <|
  OkT.cons (ok_getI fg_RX9_101 (by decide) rfl cx (by decide +kernel)) <|
  OkT.cons (ok_iconst (n := 2) cx (by decide +kernel) rfl) <|
  OkT.cons (ok_Ic_ne (off := 28) (by decide) cx (by decide +kernel)) <|
  OkT.cons (ok_bipush (n := 6) cx (by decide +kernel) rfl) <|
  OkT.cons (ok_iload_n (kn := 2) rfl cx (by decide +kernel)) <|
  OkT.cons (ok_imul cx (by decide +kernel)) <|
  OkT.cons (ok_iconst (n := 1) cx (by decide +kernel) rfl) <|
  OkT.cons (ok_iadd cx (by decide +kernel)) <|
  OkT.cons (ok_aload_n (kn := 0) rfl cx (by decide +kernel)) <|
  OkT.cons (ok_iconst (n := 0) cx (by decide +kernel) rfl) <|
  OkT.cons (ok_aload_n (kn := 0) rfl cx (by decide +kernel)) <|
  OkT.cons (ok_getI fg_RX9_125 (by decide) rfl cx (by decide +kernel)) <|
  OkT.cons (ok_iconst (n := 1) cx (by decide +kernel) rfl) <|
  OkT.cons (ok_isub cx (by decide +kernel)) <|
  OkT.cons (ok_callV hex rfl rfl (by decide) ca_RX9_134 hR hA cx (by decide +kernel)) <|
  OkT.cons (ok_iadd cx (by decide +kernel)) <|
  OkT.cons (ok_istore_n (kn := 2) rfl cx (by decide +kernel)) <|
  OkT.cons (ok_iinc (n := 1) rfl cx (by decide +kernel)) <|
  OkT.cons (ok_goto (off := (-42)) (by decide) cx (by decide +kernel)) <|
  OkT.cons (ok_fg [1, 3] (ok_aload_n (kn := 0) rfl cx (by decide +kernel))) <|
  OkT.cons (ok_getA (k := 10) fg_RX9_16 (by decide) rfl cx (by decide +kernel)) <|
  OkT.cons (ok_iconst (n := 4) cx (by decide +kernel) rfl) <|
  OkT.cons (ok_aload_n (kn := 0) rfl cx (by decide +kernel)) <|
  OkT.cons (ok_getI fg_RX9_128 (by decide) rfl cx (by decide +kernel)) <|
  OkT.cons (ok_iadd cx (by decide +kernel)) <|
  OkT.cons (ok_iload_n (kn := 2) rfl cx (by decide +kernel)) <|
  OkT.cons (ok_Iast cx (by decide +kernel)) <|
  OkT.cons (ok_aload_n (kn := 0) rfl cx (by decide +kernel)) <|
  OkT.cons (ok_dup cx (by decide +kernel)) <|
  OkT.cons (ok_getI fg_RX9_128 (by decide) rfl cx (by decide +kernel)) <|
  OkT.cons (ok_iconst (n := 1) cx (by decide +kernel) rfl) <|
  OkT.cons (ok_iadd cx (by decide +kernel)) <|
  OkT.cons (ok_putI fp_RX9_128 (by decide) rfl cx (by decide +kernel)) <|
  OkT.cons (ok_goto (off := 79) (by decide) cx (by decide +kernel)) <|
  OkT.cons (ok_fg [2, 3] (ok_iload_n (kn := 1) rfl cx (by decide +kernel))) <|
  OkT.cons (ok_iconst (n := 2) cx (by decide +kernel) rfl) <|
  OkT.cons (ok_Ic_ne (off := 40) (by decide) cx (by decide +kernel)) <|
  OkT.cons (ok_aload_n (kn := 0) rfl cx (by decide +kernel)) <|
  OkT.cons (ok_getA (k := 11) fg_RX9_19 (by decide) rfl cx (by decide +kernel)) <|
  OkT.cons (ok_iconst (n := 3) cx (by decide +kernel) rfl) <|
  OkT.cons (ok_aload_n (kn := 0) rfl cx (by decide +kernel)) <|
  OkT.cons (ok_getI fg_RX9_131 (by decide) rfl cx (by decide +kernel)) <|
  OkT.cons (ok_iadd cx (by decide +kernel)) <|
  OkT.cons (ok_aload_n (kn := 0) rfl cx (by decide +kernel)) <|
  OkT.cons (ok_iconst (n := 0) cx (by decide +kernel) rfl) <|
  OkT.cons (ok_iconst (n := 1) cx (by decide +kernel) rfl) <|
  OkT.cons (ok_aload_n (kn := 0) rfl cx (by decide +kernel)) <|
  OkT.cons (ok_getI fg_RX9_125 (by decide) rfl cx (by decide +kernel)) <|
  OkT.cons (ok_ishl cx (by decide +kernel)) <|
  OkT.cons (ok_iconst (n := 1) cx (by decide +kernel) rfl) <|
  OkT.cons (ok_isub cx (by decide +kernel)) <|
  OkT.cons (ok_callV hex rfl rfl (by decide) ca_RX9_134 hR hA cx (by decide +kernel)) <|
  OkT.cons (ok_Iast cx (by decide +kernel)) <|
  OkT.cons (ok_aload_n (kn := 0) rfl cx (by decide +kernel)) <|
  OkT.cons (ok_dup cx (by decide +kernel)) <|
  OkT.cons (ok_getI fg_RX9_131 (by decide) rfl cx (by decide +kernel)) <|
  OkT.cons (ok_iconst (n := 1) cx (by decide +kernel) rfl) <|
  OkT.cons (ok_iadd cx (by decide +kernel)) <|
  OkT.cons (ok_putI fp_RX9_131 (by decide) rfl cx (by decide +kernel)) <|
  OkT.cons (ok_goto (off := 37) (by decide) cx (by decide +kernel)) <|
  OkT.cons (ok_fg [2, 3] (ok_aload_n (kn := 0) rfl cx (by decide +kernel))) <|
  OkT.cons (ok_getA (k := 12) fg_RX9_22 (by decide) rfl cx (by decide +kernel)) <|
  OkT.cons (ok_bipush (n := 6) cx (by decide +kernel) rfl) <|
  OkT.cons (ok_iload_n (kn := 1) rfl cx (by decide +kernel)) <|
  OkT.cons (ok_iadd cx (by decide +kernel)) <|
  OkT.cons (ok_aload_n (kn := 0) rfl cx (by decide +kernel)) <|
  OkT.cons (ok_iload_n (kn := 1) rfl cx (by decide +kernel)) <|
  OkT.cons (ok_iconst (n := 5) cx (by decide +kernel) rfl) <|
  OkT.cons (ok_Ic_ne (off := 7) (by decide) cx (by decide +kernel)) <|
  OkT.cons (ok_iconst (n := 1) cx (by decide +kernel) rfl) <|
  OkT.cons (ok_goto (off := 4) (by decide) cx (by decide +kernel)) <|
  OkT.cons (ok_fg [0, 2, 3] (ok_iconst (n := 0) cx (by decide +kernel) rfl)) <|
  OkT.cons (ok_fg [0, 2, 3] (ok_iload_n (kn := 1) rfl cx (by decide +kernel))) <|
  OkT.cons (ok_iconst (n := 5) cx (by decide +kernel) rfl) <|
  OkT.cons (ok_Ic_ne (off := 7) (by decide) cx (by decide +kernel)) <|
  OkT.cons (ok_iconst (n := 5) cx (by decide +kernel) rfl) <|
  OkT.cons (ok_goto (off := 5) (by decide) cx (by decide +kernel)) <|
  OkT.cons (ok_fg [0, 1, 2, 3] (ok_bipush (n := 9) cx (by decide +kernel) rfl)) <|
  OkT.cons (ok_fg [0, 1, 2, 3] (ok_callV hex rfl rfl (by decide) ca_RX9_134 hR hA cx (by decide +kernel))) <|
  OkT.cons (ok_Iast cx (by decide +kernel)) <|
  OkT.cons (ok_fg [0, 1, 2, 3] (ok_retV hr (by decide +kernel))) <|
  OkT.nil⟩
def T_X9_school (ex : Ex) : Tb := [(0, oAld 0 1), (1, pS (fPush (.int 0)) 1), (2, oPutI 7 0), (5, oAld 0 1), (6, pS (fPush (.int (-1))) 1), (7, oPutI 7 8), (10, oAld 0 1), (11, pS (fPush (.int 0)) 1), (12, oPutI 7 4), (15, pS (fPush (.int 0)) 1), (16, oIst 1 1), (17, oAld 0 1), (18, pS (fPush (.int 0)) 1), (19, oPutI 7 16), (22, oAld 0 1), (23, pS (fPush (.int 0)) 1), (24, oPutI 7 17), (27, oAld 0 1), (28, pS (fPush (.int 0)) 1), (29, oPutI 7 18), (32, pS (fPush (.int 6)) 2), (34, oIst 2 1), (35, oIld 2 1), (36, pS (fPush (.int 12)) 2), (38, oIc_ge 55), (41, oAld 0 1), (42, oGetA 7 5), (45, oIld 2 1), (46, pS (fPush (.int (-9))) 2), (48, oIast), (49, oInc 2 1), (52, oGoto 35), (55, oFg [2] (oAld 0 1)), (56, oCallV ex 143 0 7), (59, oFg [2] (oAld 0 1)), (60, oCallV ex 144 0 7), (63, oIf_eq 134), (66, oAld 0 1), (67, oGetI 7 5), (70, oIf_eq 134), (73, oAld 0 1), (74, oAld 0 1), (75, oGetI 7 5), (78, pS (fPush (.int 1)) 1), (79, oIc_ne 93), (82, oAld 0 1), (83, oCallV ex 147 0 7), (86, oIf_eq 93), (89, pS (fPush (.int 1)) 1), (90, oGoto 94), (93, oFg [2] (pS (fPush (.int 0)) 1)), (94, oFg [2] (oCallV ex 145 1 7)), (97, oIst 2 1), (98, oAld 0 1), (99, oCallV ex 144 0 7), (102, oIf_eq 110), (105, oAld 0 1), (106, oIld 2 1), (107, oCallV ex 148 1 7), (110, oFg [2] (oAld 0 1)), (111, oAld 0 1), (112, oGetI 7 5), (115, pS (fPush (.int 3)) 1), (116, oIc_ne 123), (119, pS (fPush (.int 1)) 1), (120, oGoto 124), (123, oFg [2] (pS (fPush (.int 0)) 1)), (124, oFg [2] (oCallV ex 145 1 7)), (127, pS fPop 1), (128, oInc 1 1), (131, oGoto 59), (134, oFg [2] (oAld 0 1)), (135, oCallV ex 144 0 7), (138, oIf_ne 149), (141, pS (fPush (.int (-10))) 2), (143, oAld 0 1), (144, oGetI 7 8), (147, pS (fB (fun x y => x - y)) 1), (148, oRetI), (149, oFg [2] (oAld 0 1)), (150, oCallV ex 150 0 7), (153, oIld 1 1), (154, oRetI)]
set_option maxRecDepth 20000 in
theorem ta_X9_school : TabOk MIS T_X9_school mi_X9_school := ⟨by decide +kernel, fun l d ex hex p e R s m args below meth c cells slots ad D cI cZ A cx hR hA hr =>
  OkT.cons (ok_aload_n (kn := 0) rfl cx (by decide +kernel)) <|
  OkT.cons (ok_iconst (n := 0) cx (by decide +kernel) rfl) <|
  OkT.cons (ok_putI fp_RX9_69 (by decide) rfl cx (by decide +kernel)) <|
  OkT.cons (ok_aload_n (kn := 0) rfl cx (by decide +kernel)) <|
  OkT.cons (ok_iconst (n := (-1)) cx (by decide +kernel) rfl) <|
  OkT.cons (ok_putI fp_RX9_111 (by decide) rfl cx (by decide +kernel)) <|
  OkT.cons (ok_aload_n (kn := 0) rfl cx (by decide +kernel)) <|
  OkT.cons (ok_iconst (n := 0) cx (by decide +kernel) rfl) <|
  OkT.cons (ok_putI fp_RX9_91 (by decide) rfl cx (by decide +kernel)) <|
  OkT.cons (ok_iconst (n := 0) cx (by decide +kernel) rfl) <|
  OkT.cons (ok_istore_n (kn := 1) rfl cx (by decide +kernel)) <|
  OkT.cons (ok_aload_n (kn := 0) rfl cx (by decide +kernel)) <|
  OkT.cons (ok_iconst (n := 0) cx (by decide +kernel) rfl) <|
  OkT.cons (ok_putI fp_RX9_125 (by decide) rfl cx (by decide +kernel)) <|
  OkT.cons (ok_aload_n (kn := 0) rfl cx (by decide +kernel)) <|
  OkT.cons (ok_iconst (n := 0) cx (by decide +kernel) rfl) <|
  OkT.cons (ok_putI fp_RX9_128 (by decide) rfl cx (by decide +kernel)) <|
  OkT.cons (ok_aload_n (kn := 0) rfl cx (by decide +kernel)) <|
  OkT.cons (ok_iconst (n := 0) cx (by decide +kernel) rfl) <|
  OkT.cons (ok_putI fp_RX9_131 (by decide) rfl cx (by decide +kernel)) <|
  OkT.cons (ok_bipush (n := 6) cx (by decide +kernel) rfl) <|
  OkT.cons (ok_istore_n (kn := 2) rfl cx (by decide +kernel)) <|
  OkT.cons (ok_iload_n (kn := 2) rfl cx (by decide +kernel)) <|
  OkT.cons (ok_bipush (n := 12) cx (by decide +kernel) rfl) <|
  OkT.cons (ok_Ic_ge (off := 17) (by decide) cx (by decide +kernel)) <|
  OkT.cons (ok_aload_n (kn := 0) rfl cx (by decide +kernel)) <|
  OkT.cons (ok_getA (k := 12) fg_RX9_22 (by decide) rfl cx (by decide +kernel)) <|
  OkT.cons (ok_iload_n (kn := 2) rfl cx (by decide +kernel)) <|
  OkT.cons (ok_bipush (n := (-9)) cx (by decide +kernel) rfl) <|
  OkT.cons (ok_Iast cx (by decide +kernel)) <|
  OkT.cons (ok_iinc (n := 1) rfl cx (by decide +kernel)) <|
  OkT.cons (ok_goto (off := (-17)) (by decide) cx (by decide +kernel)) <|
  OkT.cons (ok_fg [2] (ok_aload_n (kn := 0) rfl cx (by decide +kernel))) <|
  OkT.cons (ok_callV hex rfl rfl (by decide) ca_RX9_118 hR hA cx (by decide +kernel)) <|
  OkT.cons (ok_fg [2] (ok_aload_n (kn := 0) rfl cx (by decide +kernel))) <|
  OkT.cons (ok_callV hex rfl rfl (by decide) ca_RX9_114 hR hA cx (by decide +kernel)) <|
  OkT.cons (ok_If_eq (off := 71) (by decide) cx (by decide +kernel)) <|
  OkT.cons (ok_aload_n (kn := 0) rfl cx (by decide +kernel)) <|
  OkT.cons (ok_getI fg_RX9_101 (by decide) rfl cx (by decide +kernel)) <|
  OkT.cons (ok_If_eq (off := 64) (by decide) cx (by decide +kernel)) <|
  OkT.cons (ok_aload_n (kn := 0) rfl cx (by decide +kernel)) <|
  OkT.cons (ok_aload_n (kn := 0) rfl cx (by decide +kernel)) <|
  OkT.cons (ok_getI fg_RX9_101 (by decide) rfl cx (by decide +kernel)) <|
  OkT.cons (ok_iconst (n := 1) cx (by decide +kernel) rfl) <|
  OkT.cons (ok_Ic_ne (off := 14) (by decide) cx (by decide +kernel)) <|
  OkT.cons (ok_aload_n (kn := 0) rfl cx (by decide +kernel)) <|
  OkT.cons (ok_callV hex rfl rfl (by decide) ca_RX9_138 hR hA cx (by decide +kernel)) <|
  OkT.cons (ok_If_eq (off := 7) (by decide) cx (by decide +kernel)) <|
  OkT.cons (ok_iconst (n := 1) cx (by decide +kernel) rfl) <|
  OkT.cons (ok_goto (off := 4) (by decide) cx (by decide +kernel)) <|
  OkT.cons (ok_fg [2] (ok_iconst (n := 0) cx (by decide +kernel) rfl)) <|
  OkT.cons (ok_fg [2] (ok_callV hex rfl rfl (by decide) ca_RX9_121 hR hA cx (by decide +kernel))) <|
  OkT.cons (ok_istore_n (kn := 2) rfl cx (by decide +kernel)) <|
  OkT.cons (ok_aload_n (kn := 0) rfl cx (by decide +kernel)) <|
  OkT.cons (ok_callV hex rfl rfl (by decide) ca_RX9_114 hR hA cx (by decide +kernel)) <|
  OkT.cons (ok_If_eq (off := 8) (by decide) cx (by decide +kernel)) <|
  OkT.cons (ok_aload_n (kn := 0) rfl cx (by decide +kernel)) <|
  OkT.cons (ok_iload_n (kn := 2) rfl cx (by decide +kernel)) <|
  OkT.cons (ok_callV hex rfl rfl (by decide) ca_RX9_141 hR hA cx (by decide +kernel)) <|
  OkT.cons (ok_fg [2] (ok_aload_n (kn := 0) rfl cx (by decide +kernel))) <|
  OkT.cons (ok_aload_n (kn := 0) rfl cx (by decide +kernel)) <|
  OkT.cons (ok_getI fg_RX9_101 (by decide) rfl cx (by decide +kernel)) <|
  OkT.cons (ok_iconst (n := 3) cx (by decide +kernel) rfl) <|
  OkT.cons (ok_Ic_ne (off := 7) (by decide) cx (by decide +kernel)) <|
  OkT.cons (ok_iconst (n := 1) cx (by decide +kernel) rfl) <|
  OkT.cons (ok_goto (off := 4) (by decide) cx (by decide +kernel)) <|
  OkT.cons (ok_fg [2] (ok_iconst (n := 0) cx (by decide +kernel) rfl)) <|
  OkT.cons (ok_fg [2] (ok_callV hex rfl rfl (by decide) ca_RX9_121 hR hA cx (by decide +kernel))) <|
  OkT.cons (ok_pop cx (by decide +kernel)) <|
  OkT.cons (ok_iinc (n := 1) rfl cx (by decide +kernel)) <|
  OkT.cons (ok_goto (off := (-72)) (by decide) cx (by decide +kernel)) <|
  OkT.cons (ok_fg [2] (ok_aload_n (kn := 0) rfl cx (by decide +kernel))) <|
  OkT.cons (ok_callV hex rfl rfl (by decide) ca_RX9_114 hR hA cx (by decide +kernel)) <|
  OkT.cons (ok_If_ne (off := 11) (by decide) cx (by decide +kernel)) <|
  OkT.cons (ok_bipush (n := (-10)) cx (by decide +kernel) rfl) <|
  OkT.cons (ok_aload_n (kn := 0) rfl cx (by decide +kernel)) <|
  OkT.cons (ok_getI fg_RX9_111 (by decide) rfl cx (by decide +kernel)) <|
  OkT.cons (ok_isub cx (by decide +kernel)) <|
  OkT.cons (ok_retI hr (by decide +kernel)) <|
  OkT.cons (ok_fg [2] (ok_aload_n (kn := 0) rfl cx (by decide +kernel))) <|
  OkT.cons (ok_callV hex rfl rfl (by decide) ca_RX9_145 hR hA cx (by decide +kernel)) <|
  OkT.cons (ok_iload_n (kn := 1) rfl cx (by decide +kernel)) <|
  OkT.cons (ok_retI hr (by decide +kernel)) <|
  OkT.nil⟩
def T_X9_settles (ex : Ex) : Tb := [(0, oAld 0 1), (1, oAld 0 1), (2, oGetI 7 16), (5, oPutI 7 13), (8, oAld 0 1), (9, oAld 0 1), (10, oGetI 7 17), (13, oPutI 7 14), (16, oAld 0 1), (17, oAld 0 1), (18, oGetI 7 18), (21, oPutI 7 15), (24, pS (fPush (.int 0)) 1), (25, oIst 1 1), (26, oIld 1 1), (27, pS (fPush (.int 20)) 2), (29, oIc_ge 53), (32, oAld 0 1), (33, oGetA 7 2), (36, oIld 1 1), (37, oAld 0 1), (38, oGetA 7 2), (41, pS (fPush (.int 20)) 2), (43, oIld 1 1), (44, pS (fB (fun x y => x + y)) 1), (45, oIald), (46, oIast), (47, oInc 1 1), (50, oGoto 26), (53, oFg [1] (pS (fPush (.int 0)) 1)), (54, oIst 1 1), (55, oIld 1 1), (56, pS (fPush (.int 3)) 1), (57, oIc_ge 80), (60, oAld 0 1), (61, oGetA 7 4), (64, oIld 1 1), (65, oAld 0 1), (66, oGetA 7 4), (69, pS (fPush (.int 3)) 1), (70, oIld 1 1), (71, pS (fB (fun x y => x + y)) 1), (72, oIald), (73, oIast), (74, oInc 1 1), (77, oGoto 55), (80, oFg [1] (pS (fPush (.int 0)) 1)), (81, oIst 1 1), (82, oIld 1 1), (83, pS (fPush (.int 4)) 1), (84, oIc_ge 119), (87, oAld 0 1), (88, oGetA 7 6), (91, oIld 1 1), (92, oIld 1 1), (93, oAld 0 1), (94, oGetI 7 14), (97, oIc_ge 111), (100, oAld 0 1), (101, oGetA 7 3), (104, pS (fPush (.int 4)) 1), (105, oIld 1 1), (106, pS (fB (fun x y => x + y)) 1), (107, oIald), (108, oGoto 112), (111, pS (fPush (.int 0)) 1), (112, oIast), (113, oInc 1 1), (116, oGoto 82), (119, oFg [1] (pS (fPush (.int 3)) 1)), (120, oIst 1 1), (121, oIld 1 1), (122, pS (fPush (.int 5)) 1), (123, oIc_gt 174), (126, oAld 0 1), (127, oGetA 7 5), (130, oIld 1 1), (131, oAld 0 1), (132, oGetA 7 5), (135, pS (fPush (.int 6)) 2), (137, oIld 1 1), (138, pS (fB (fun x y => x + y)) 1), (139, oIald), (140, pS (fPush (.int (-9))) 2), (142, oIc_eq 157), (145, oAld 0 1), (146, oGetA 7 5), (149, pS (fPush (.int 6)) 2), (151, oIld 1 1), (152, pS (fB (fun x y => x + y)) 1), (153, oIald), (154, oGoto 167), (157, oIld 1 1), (158, pS (fPush (.int 5)) 1), (159, oIc_ne 166), (162, pS (fPush (.int 4)) 1), (163, oGoto 167), (166, pS (fPush (.int 1)) 1), (167, oIast), (168, oInc 1 1), (171, oGoto 121), (174, oFg [1] (oAld 0 1)), (175, oGetA 7 6), (178, pS (fPush (.int 4)) 1), (179, pS (fPush (.int 0)) 1), (180, oIast), (181, oAld 0 1), (182, pS (fPush (.int 0)) 1), (183, oPutI 7 3), (186, oAld 0 1), (187, pS (fPush (.int 0)) 1), (188, oPutI 7 23), (191, oAld 0 1), (192, pS (fPush (.int 0)) 1), (193, oPutI 7 26), (196, oAld 0 1), (197, oGetA 7 8), (200, pS (fPush (.int 0)) 1), (201, pS (fPush (.int 0)) 1), (202, oZast), (203, oAld 0 1), (204, oGetA 7 8), (207, pS (fPush (.int 1)) 1), (208, pS (fPush (.int 0)) 1), (209, oZast), (210, pS (fPush (.int 0)) 1), (211, oIst 1 1), (212, oIld 1 1), (213, pS (fPush (.int 7776)) 3), (216, oIc_ge 236), (219, oAld 0 1), (220, oGetA 7 13), (223, oIld 1 1), (224, oAld 0 1), (225, oIld 1 1), (226, oCallV ex 173 1 7), (229, oZast), (230, oInc 1 1), (233, oGoto 212), (236, oFg [1] (oAld 0 1)), (237, pS (fPush (.int (-9))) 2), (239, oPutI 7 30), (242, oRetV)]
set_option maxRecDepth 20000 in
theorem ta_X9_settles : TabOk MIS T_X9_settles mi_X9_settles := ⟨by decide +kernel, fun l d ex hex p e R s m args below meth c cells slots ad D cI cZ A cx hR hA hr =>
  OkT.cons (ok_aload_n (kn := 0) rfl cx (by decide +kernel)) <|
  OkT.cons (ok_aload_n (kn := 0) rfl cx (by decide +kernel)) <|
  OkT.cons (ok_getI fg_RX9_125 (by decide) rfl cx (by decide +kernel)) <|
  OkT.cons (ok_putI fp_RX9_148 (by decide) rfl cx (by decide +kernel)) <|
  OkT.cons (ok_aload_n (kn := 0) rfl cx (by decide +kernel)) <|
  OkT.cons (ok_aload_n (kn := 0) rfl cx (by decide +kernel)) <|
  OkT.cons (ok_getI fg_RX9_128 (by decide) rfl cx (by decide +kernel)) <|
  OkT.cons (ok_putI fp_RX9_151 (by decide) rfl cx (by decide +kernel)) <|
  OkT.cons (ok_aload_n (kn := 0) rfl cx (by decide +kernel)) <|
  OkT.cons (ok_aload_n (kn := 0) rfl cx (by decide +kernel)) <|
  OkT.cons (ok_getI fg_RX9_131 (by decide) rfl cx (by decide +kernel)) <|
  OkT.cons (ok_putI fp_RX9_154 (by decide) rfl cx (by decide +kernel)) <|
  OkT.cons (ok_iconst (n := 0) cx (by decide +kernel) rfl) <|
  OkT.cons (ok_istore_n (kn := 1) rfl cx (by decide +kernel)) <|
  OkT.cons (ok_iload_n (kn := 1) rfl cx (by decide +kernel)) <|
  OkT.cons (ok_bipush (n := 20) cx (by decide +kernel) rfl) <|
  OkT.cons (ok_Ic_ge (off := 24) (by decide) cx (by decide +kernel)) <|
  OkT.cons (ok_aload_n (kn := 0) rfl cx (by decide +kernel)) <|
  OkT.cons (ok_getA (k := 9) fg_RX9_13 (by decide) rfl cx (by decide +kernel)) <|
  OkT.cons (ok_iload_n (kn := 1) rfl cx (by decide +kernel)) <|
  OkT.cons (ok_aload_n (kn := 0) rfl cx (by decide +kernel)) <|
  OkT.cons (ok_getA (k := 9) fg_RX9_13 (by decide) rfl cx (by decide +kernel)) <|
  OkT.cons (ok_bipush (n := 20) cx (by decide +kernel) rfl) <|
  OkT.cons (ok_iload_n (kn := 1) rfl cx (by decide +kernel)) <|
  OkT.cons (ok_iadd cx (by decide +kernel)) <|
  OkT.cons (ok_Iald cx (by decide +kernel)) <|
  OkT.cons (ok_Iast cx (by decide +kernel)) <|
  OkT.cons (ok_iinc (n := 1) rfl cx (by decide +kernel)) <|
  OkT.cons (ok_goto (off := (-24)) (by decide) cx (by decide +kernel)) <|
  OkT.cons (ok_fg [1] (ok_iconst (n := 0) cx (by decide +kernel) rfl)) <|
  OkT.cons (ok_istore_n (kn := 1) rfl cx (by decide +kernel)) <|
  OkT.cons (ok_iload_n (kn := 1) rfl cx (by decide +kernel)) <|
  OkT.cons (ok_iconst (n := 3) cx (by decide +kernel) rfl) <|
  OkT.cons (ok_Ic_ge (off := 23) (by decide) cx (by decide +kernel)) <|
  OkT.cons (ok_aload_n (kn := 0) rfl cx (by decide +kernel)) <|
  OkT.cons (ok_getA (k := 11) fg_RX9_19 (by decide) rfl cx (by decide +kernel)) <|
  OkT.cons (ok_iload_n (kn := 1) rfl cx (by decide +kernel)) <|
  OkT.cons (ok_aload_n (kn := 0) rfl cx (by decide +kernel)) <|
  OkT.cons (ok_getA (k := 11) fg_RX9_19 (by decide) rfl cx (by decide +kernel)) <|
  OkT.cons (ok_iconst (n := 3) cx (by decide +kernel) rfl) <|
  OkT.cons (ok_iload_n (kn := 1) rfl cx (by decide +kernel)) <|
  OkT.cons (ok_iadd cx (by decide +kernel)) <|
  OkT.cons (ok_Iald cx (by decide +kernel)) <|
  OkT.cons (ok_Iast cx (by decide +kernel)) <|
  OkT.cons (ok_iinc (n := 1) rfl cx (by decide +kernel)) <|
  OkT.cons (ok_goto (off := (-22)) (by decide) cx (by decide +kernel)) <|
  OkT.cons (ok_fg [1] (ok_iconst (n := 0) cx (by decide +kernel) rfl)) <|
  OkT.cons (ok_istore_n (kn := 1) rfl cx (by decide +kernel)) <|
  OkT.cons (ok_iload_n (kn := 1) rfl cx (by decide +kernel)) <|
  OkT.cons (ok_iconst (n := 4) cx (by decide +kernel) rfl) <|
  OkT.cons (ok_Ic_ge (off := 35) (by decide) cx (by decide +kernel)) <|
  OkT.cons (ok_aload_n (kn := 0) rfl cx (by decide +kernel)) <|
  OkT.cons (ok_getA (k := 19) fg_RX9_25 (by decide) rfl cx (by decide +kernel)) <|
  OkT.cons (ok_iload_n (kn := 1) rfl cx (by decide +kernel)) <|
  OkT.cons (ok_iload_n (kn := 1) rfl cx (by decide +kernel)) <|
  OkT.cons (ok_aload_n (kn := 0) rfl cx (by decide +kernel)) <|
  OkT.cons (ok_getI fg_RX9_151 (by decide) rfl cx (by decide +kernel)) <|
  OkT.cons (ok_Ic_ge (off := 14) (by decide) cx (by decide +kernel)) <|
  OkT.cons (ok_aload_n (kn := 0) rfl cx (by decide +kernel)) <|
  OkT.cons (ok_getA (k := 10) fg_RX9_16 (by decide) rfl cx (by decide +kernel)) <|
  OkT.cons (ok_iconst (n := 4) cx (by decide +kernel) rfl) <|
  OkT.cons (ok_iload_n (kn := 1) rfl cx (by decide +kernel)) <|
  OkT.cons (ok_iadd cx (by decide +kernel)) <|
  OkT.cons (ok_Iald cx (by decide +kernel)) <|
  OkT.cons (ok_goto (off := 4) (by decide) cx (by decide +kernel)) <|
  OkT.cons (ok_iconst (n := 0) cx (by decide +kernel) rfl) <|
  OkT.cons (ok_Iast cx (by decide +kernel)) <|
  OkT.cons (ok_iinc (n := 1) rfl cx (by decide +kernel)) <|
  OkT.cons (ok_goto (off := (-34)) (by decide) cx (by decide +kernel)) <|
  OkT.cons (ok_fg [1] (ok_iconst (n := 3) cx (by decide +kernel) rfl)) <|
  OkT.cons (ok_istore_n (kn := 1) rfl cx (by decide +kernel)) <|
  OkT.cons (ok_iload_n (kn := 1) rfl cx (by decide +kernel)) <|
  OkT.cons (ok_iconst (n := 5) cx (by decide +kernel) rfl) <|
  OkT.cons (ok_Ic_gt (off := 51) (by decide) cx (by decide +kernel)) <|
  OkT.cons (ok_aload_n (kn := 0) rfl cx (by decide +kernel)) <|
  OkT.cons (ok_getA (k := 12) fg_RX9_22 (by decide) rfl cx (by decide +kernel)) <|
  OkT.cons (ok_iload_n (kn := 1) rfl cx (by decide +kernel)) <|
  OkT.cons (ok_aload_n (kn := 0) rfl cx (by decide +kernel)) <|
  OkT.cons (ok_getA (k := 12) fg_RX9_22 (by decide) rfl cx (by decide +kernel)) <|
  OkT.cons (ok_bipush (n := 6) cx (by decide +kernel) rfl) <|
  OkT.cons (ok_iload_n (kn := 1) rfl cx (by decide +kernel)) <|
  OkT.cons (ok_iadd cx (by decide +kernel)) <|
  OkT.cons (ok_Iald cx (by decide +kernel)) <|
  OkT.cons (ok_bipush (n := (-9)) cx (by decide +kernel) rfl) <|
  OkT.cons (ok_Ic_eq (off := 15) (by decide) cx (by decide +kernel)) <|
  OkT.cons (ok_aload_n (kn := 0) rfl cx (by decide +kernel)) <|
  OkT.cons (ok_getA (k := 12) fg_RX9_22 (by decide) rfl cx (by decide +kernel)) <|
  OkT.cons (ok_bipush (n := 6) cx (by decide +kernel) rfl) <|
  OkT.cons (ok_iload_n (kn := 1) rfl cx (by decide +kernel)) <|
  OkT.cons (ok_iadd cx (by decide +kernel)) <|
  OkT.cons (ok_Iald cx (by decide +kernel)) <|
  OkT.cons (ok_goto (off := 13) (by decide) cx (by decide +kernel)) <|
  OkT.cons (ok_iload_n (kn := 1) rfl cx (by decide +kernel)) <|
  OkT.cons (ok_iconst (n := 5) cx (by decide +kernel) rfl) <|
  OkT.cons (ok_Ic_ne (off := 7) (by decide) cx (by decide +kernel)) <|
  OkT.cons (ok_iconst (n := 4) cx (by decide +kernel) rfl) <|
  OkT.cons (ok_goto (off := 4) (by decide) cx (by decide +kernel)) <|
  OkT.cons (ok_iconst (n := 1) cx (by decide +kernel) rfl) <|
  OkT.cons (ok_Iast cx (by decide +kernel)) <|
  OkT.cons (ok_iinc (n := 1) rfl cx (by decide +kernel)) <|
  OkT.cons (ok_goto (off := (-50)) (by decide) cx (by decide +kernel)) <|
  OkT.cons (ok_fg [1] (ok_aload_n (kn := 0) rfl cx (by decide +kernel))) <|
  OkT.cons (ok_getA (k := 19) fg_RX9_25 (by decide) rfl cx (by decide +kernel)) <|
  OkT.cons (ok_iconst (n := 4) cx (by decide +kernel) rfl) <|
  OkT.cons (ok_iconst (n := 0) cx (by decide +kernel) rfl) <|
  OkT.cons (ok_Iast cx (by decide +kernel)) <|
  OkT.cons (ok_aload_n (kn := 0) rfl cx (by decide +kernel)) <|
  OkT.cons (ok_iconst (n := 0) cx (by decide +kernel) rfl) <|
  OkT.cons (ok_putI fp_RX9_76 (by decide) rfl cx (by decide +kernel)) <|
  OkT.cons (ok_aload_n (kn := 0) rfl cx (by decide +kernel)) <|
  OkT.cons (ok_iconst (n := 0) cx (by decide +kernel) rfl) <|
  OkT.cons (ok_putI fp_RX9_157 (by decide) rfl cx (by decide +kernel)) <|
  OkT.cons (ok_aload_n (kn := 0) rfl cx (by decide +kernel)) <|
  OkT.cons (ok_iconst (n := 0) cx (by decide +kernel) rfl) <|
  OkT.cons (ok_putI fp_RX9_160 (by decide) rfl cx (by decide +kernel)) <|
  OkT.cons (ok_aload_n (kn := 0) rfl cx (by decide +kernel)) <|
  OkT.cons (ok_getA (k := 21) fg_RX9_31 (by decide) rfl cx (by decide +kernel)) <|
  OkT.cons (ok_iconst (n := 0) cx (by decide +kernel) rfl) <|
  OkT.cons (ok_iconst (n := 0) cx (by decide +kernel) rfl) <|
  OkT.cons (ok_Zast cx (by decide +kernel)) <|
  OkT.cons (ok_aload_n (kn := 0) rfl cx (by decide +kernel)) <|
  OkT.cons (ok_getA (k := 21) fg_RX9_31 (by decide) rfl cx (by decide +kernel)) <|
  OkT.cons (ok_iconst (n := 1) cx (by decide +kernel) rfl) <|
  OkT.cons (ok_iconst (n := 0) cx (by decide +kernel) rfl) <|
  OkT.cons (ok_Zast cx (by decide +kernel)) <|
  OkT.cons (ok_iconst (n := 0) cx (by decide +kernel) rfl) <|
  OkT.cons (ok_istore_n (kn := 1) rfl cx (by decide +kernel)) <|
  OkT.cons (ok_iload_n (kn := 1) rfl cx (by decide +kernel)) <|
  OkT.cons (ok_sipush (n := 7776) cx (by decide +kernel) rfl) <|
  OkT.cons (ok_Ic_ge (off := 20) (by decide) cx (by decide +kernel)) <|
  OkT.cons (ok_aload_n (kn := 0) rfl cx (by decide +kernel)) <|
  OkT.cons (ok_getA (k := 28) fg_RX9_47 (by decide) rfl cx (by decide +kernel)) <|
  OkT.cons (ok_iload_n (kn := 1) rfl cx (by decide +kernel)) <|
  OkT.cons (ok_aload_n (kn := 0) rfl cx (by decide +kernel)) <|
  OkT.cons (ok_iload_n (kn := 1) rfl cx (by decide +kernel)) <|
  OkT.cons (ok_callV hex rfl rfl (by decide) ca_RX9_163 hR hA cx (by decide +kernel)) <|
  OkT.cons (ok_Zast cx (by decide +kernel)) <|
  OkT.cons (ok_iinc (n := 1) rfl cx (by decide +kernel)) <|
  OkT.cons (ok_goto (off := (-21)) (by decide) cx (by decide +kernel)) <|
  OkT.cons (ok_fg [1] (ok_aload_n (kn := 0) rfl cx (by decide +kernel))) <|
  OkT.cons (ok_bipush (n := (-9)) cx (by decide +kernel) rfl) <|
  OkT.cons (ok_putI fp_RX9_53 (by decide) rfl cx (by decide +kernel)) <|
  OkT.cons (ok_retV hr (by decide +kernel)) <|
  OkT.nil⟩

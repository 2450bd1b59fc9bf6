/-! the tables of the methods and that they are right (printed by a program) -/
def T_X9_isSpell (ex : Ex) : Tb := [(0, oIld 1 1), (1, pS (fPush (.int 0)) 1), (2, oAld 0 1), (3, oGetI 7 13), (6, pS (fPush (.int 1)) 1), (7, pS (fB (fun x y => x - y)) 1), (8, oCallS ex 135 3), (11, oRetZ)]
set_option maxRecDepth 20000 in
theorem ta_X9_isSpell : TabOk MIS T_X9_isSpell mi_X9_isSpell := ⟨by decide +kernel, fun l d ex hex p e R s m args below meth c cells slots ad D cI cZ A cx hR hA hr =>
  OkT.cons (ok_iload_n (kn := 1) rfl cx (by decide +kernel)) <|
  OkT.cons (ok_iconst (n := 0) cx (by decide +kernel) rfl) <|
  OkT.cons (ok_aload_n (kn := 0) rfl cx (by decide +kernel)) <|
  OkT.cons (ok_getI fg_RX9_148 (by decide) rfl cx (by decide +kernel)) <|
  OkT.cons (ok_iconst (n := 1) cx (by decide +kernel) rfl) <|
  OkT.cons (ok_isub cx (by decide +kernel)) <|
  OkT.cons (ok_callS hex rfl ca_RX9_72 hR hA cx (by decide +kernel)) <|
  OkT.cons (ok_retZ hr (by decide +kernel)) <|
  OkT.nil⟩
def T_X9_isThing (ex : Ex) : Tb := [(0, oIld 1 1), (1, pS (fPush (.int 0)) 1), (2, oAld 0 1), (3, oGetI 7 14), (6, pS (fPush (.int 1)) 1), (7, pS (fB (fun x y => x - y)) 1), (8, oCallS ex 135 3), (11, oRetZ)]
set_option maxRecDepth 20000 in
theorem ta_X9_isThing : TabOk MIS T_X9_isThing mi_X9_isThing := ⟨by decide +kernel, fun l d ex hex p e R s m args below meth c cells slots ad D cI cZ A cx hR hA hr =>
  OkT.cons (ok_iload_n (kn := 1) rfl cx (by decide +kernel)) <|
  OkT.cons (ok_iconst (n := 0) cx (by decide +kernel) rfl) <|
  OkT.cons (ok_aload_n (kn := 0) rfl cx (by decide +kernel)) <|
  OkT.cons (ok_getI fg_RX9_151 (by decide) rfl cx (by decide +kernel)) <|
  OkT.cons (ok_iconst (n := 1) cx (by decide +kernel) rfl) <|
  OkT.cons (ok_isub cx (by decide +kernel)) <|
  OkT.cons (ok_callS hex rfl ca_RX9_72 hR hA cx (by decide +kernel)) <|
  OkT.cons (ok_retZ hr (by decide +kernel)) <|
  OkT.nil⟩
def T_X9_isPupil (ex : Ex) : Tb := [(0, oIld 1 1), (1, pS (fPush (.int 0)) 1), (2, oAld 0 1), (3, oGetI 7 15), (6, pS (fPush (.int 1)) 1), (7, pS (fB (fun x y => x - y)) 1), (8, oCallS ex 135 3), (11, oRetZ)]
set_option maxRecDepth 20000 in
theorem ta_X9_isPupil : TabOk MIS T_X9_isPupil mi_X9_isPupil := ⟨by decide +kernel, fun l d ex hex p e R s m args below meth c cells slots ad D cI cZ A cx hR hA hr =>
  OkT.cons (ok_iload_n (kn := 1) rfl cx (by decide +kernel)) <|
  OkT.cons (ok_iconst (n := 0) cx (by decide +kernel) rfl) <|
  OkT.cons (ok_aload_n (kn := 0) rfl cx (by decide +kernel)) <|
  OkT.cons (ok_getI fg_RX9_154 (by decide) rfl cx (by decide +kernel)) <|
  OkT.cons (ok_iconst (n := 1) cx (by decide +kernel) rfl) <|
  OkT.cons (ok_isub cx (by decide +kernel)) <|
  OkT.cons (ok_callS hex rfl ca_RX9_72 hR hA cx (by decide +kernel)) <|
  OkT.cons (ok_retZ hr (by decide +kernel)) <|
  OkT.nil⟩
def T_X9_spell (ex : Ex) : Tb := [(0, oAld 0 1), (1, pS (fPush (.int 0)) 1), (2, oPutI 7 0), (5, oAld 0 1), (6, oIld 1 1), (7, oCallV ex 151 1 7), (10, oIf_eq 35), (13, oIld 2 1), (14, pS (fPush (.int 0)) 1), (15, pS (fPush (.int 3)) 1), (16, oCallS ex 135 3), (19, oIf_eq 35), (22, oAld 0 1), (23, oGetA 7 2), (26, pS (fPush (.int 4)) 1), (27, oIld 1 1), (28, pS (fB (fun x y => x * y)) 1), (29, oIld 2 1), (30, pS (fB (fun x y => x + y)) 1), (31, oIald), (32, oGoto 36), (35, oFg [0, 1, 2] (pS (fPush (.int (-1))) 1)), (36, oFg [0, 1, 2] (oRetI))]
set_option maxRecDepth 20000 in
theorem ta_X9_spell : TabOk MIS T_X9_spell mi_X9_spell := ⟨by decide +kernel, fun l d ex hex p e R s m args below meth c cells slots ad D cI cZ A cx hR hA hr =>
  OkT.cons (ok_aload_n (kn := 0) rfl cx (by decide +kernel)) <|
  OkT.cons (ok_iconst (n := 0) cx (by decide +kernel) rfl) <|
  OkT.cons (ok_putI fp_RX9_69 (by decide) rfl cx (by decide +kernel)) <|
  OkT.cons (ok_aload_n (kn := 0) rfl cx (by decide +kernel)) <|
  OkT.cons (ok_iload_n (kn := 1) rfl cx (by decide +kernel)) <|
  OkT.cons (ok_callV hex rfl rfl (by decide) ca_RX9_167 hR hA cx (by decide +kernel)) <|
  OkT.cons (ok_If_eq (off := 25) (by decide) cx (by decide +kernel)) <|
  OkT.cons (ok_iload_n (kn := 2) rfl cx (by decide +kernel)) <|
  OkT.cons (ok_iconst (n := 0) cx (by decide +kernel) rfl) <|
  OkT.cons (ok_iconst (n := 3) cx (by decide +kernel) rfl) <|
  OkT.cons (ok_callS hex rfl ca_RX9_72 hR hA cx (by decide +kernel)) <|
  OkT.cons (ok_If_eq (off := 16) (by decide) cx (by decide +kernel)) <|
  OkT.cons (ok_aload_n (kn := 0) rfl cx (by decide +kernel)) <|
  OkT.cons (ok_getA (k := 9) fg_RX9_13 (by decide) rfl cx (by decide +kernel)) <|
  OkT.cons (ok_iconst (n := 4) cx (by decide +kernel) rfl) <|
  OkT.cons (ok_iload_n (kn := 1) rfl cx (by decide +kernel)) <|
  OkT.cons (ok_imul cx (by decide +kernel)) <|
  OkT.cons (ok_iload_n (kn := 2) rfl cx (by decide +kernel)) <|
  OkT.cons (ok_iadd cx (by decide +kernel)) <|
  OkT.cons (ok_Iald cx (by decide +kernel)) <|
  OkT.cons (ok_goto (off := 4) (by decide) cx (by decide +kernel)) <|
  OkT.cons (ok_fg [0, 1, 2] (ok_iconst (n := (-1)) cx (by decide +kernel) rfl)) <|
  OkT.cons (ok_fg [0, 1, 2] (ok_retI hr (by decide +kernel))) <|
  OkT.nil⟩
def T_X9_layersOf (ex : Ex) : Tb := [(0, pS (fPush (.int 0)) 1), (1, oIst 1 1), (2, oIld 0 1), (3, oIst 2 1), (4, oFg [0] (oIld 2 1)), (5, oIf_le 19), (8, oInc 1 1), (11, oIld 2 1), (12, pS (fPush (.int 6)) 2), (14, pS (fDv (fun x y => x / y)) 1), (15, oIst 2 1), (16, oGoto 4), (19, oFg [0, 2] (oIld 1 1)), (20, oRetI)]
set_option maxRecDepth 20000 in
theorem ta_X9_layersOf : TabOk MIS T_X9_layersOf mi_X9_layersOf := ⟨by decide +kernel, fun l d ex hex p e R s m args below meth c cells slots ad D cI cZ A cx hR hA hr =>
  OkT.cons (ok_iconst (n := 0) cx (by decide +kernel) rfl) <|
  OkT.cons (ok_istore_n (kn := 1) rfl cx (by decide +kernel)) <|
  OkT.cons (ok_iload_n (kn := 0) rfl cx (by decide +kernel)) <|
  OkT.cons (ok_istore_n (kn := 2) rfl cx (by decide +kernel)) <|
  OkT.cons (ok_fg [0] (ok_iload_n (kn := 2) rfl cx (by decide +kernel))) <|
  OkT.cons (ok_If_le (off := 14) (by decide) cx (by decide +kernel)) <|
  OkT.cons (ok_iinc (n := 1) rfl cx (by decide +kernel)) <|
  OkT.cons (ok_iload_n (kn := 2) rfl cx (by decide +kernel)) <|
  OkT.cons (ok_bipush (n := 6) cx (by decide +kernel) rfl) <|
  OkT.cons (ok_idiv cx (by decide +kernel)) <|
  OkT.cons (ok_istore_n (kn := 2) rfl cx (by decide +kernel)) <|
  OkT.cons (ok_goto (off := (-12)) (by decide) cx (by decide +kernel)) <|
  OkT.cons (ok_fg [0, 2] (ok_iload_n (kn := 1) rfl cx (by decide +kernel))) <|
  OkT.cons (ok_retI hr (by decide +kernel)) <|
  OkT.nil⟩
def T_X9_worksOf (ex : Ex) : Tb := [(0, pS (fPush (.int 0)) 1), (1, oIst 2 1), (2, oIld 1 1), (3, oIst 3 1), (4, pS (fPush (.int 1)) 1), (5, oIst 4 2), (7, oFg [1, 5] (oIld 3 1)), (8, oIf_le 66), (11, oIld 4 2), (13, oIf_eq 66), (16, pS (fPush (.int 4)) 1), (17, oIld 3 1), (18, pS (fPush (.int 6)) 2), (20, pS (fDv (fun x y => x - x / y * y)) 1), (21, pS (fPush (.int 1)) 1), (22, pS (fB (fun x y => x - y)) 1), (23, pS (fB (fun x y => x * y)) 1), (24, oIst 5 2), (26, oIld 2 1), (27, pS (fPush (.int 1)) 1), (28, oAld 0 1), (29, oGetA 7 2), (32, oIld 5 2), (34, oIald), (35, pS (fB (fun x y => x <<< (y &&& 31))) 1), (36, pS (fB (fun x y => x ||| y)) 1), (37, oIst 2 1), (38, oAld 0 1), (39, oGetA 7 2), (42, oIld 5 2), (44, pS (fPush (.int 1)) 1), (45, pS (fB (fun x y => x + y)) 1), (46, oIald), (47, pS (fPush (.int 1)) 1), (48, oIc_ne 55), (51, pS (fPush (.int 1)) 1), (52, oGoto 56), (55, oFg [1, 4, 5] (pS (fPush (.int 0)) 1)), (56, oFg [1, 4, 5] (oIst 4 2)), (58, oIld 3 1), (59, pS (fPush (.int 6)) 2), (61, pS (fDv (fun x y => x / y)) 1), (62, oIst 3 1), (63, oGoto 7), (66, oFg [0, 1, 3, 4, 5] (oIld 2 1)), (67, oRetI)]
set_option maxRecDepth 20000 in
theorem ta_X9_worksOf : TabOk MIS T_X9_worksOf mi_X9_worksOf := ⟨by decide +kernel, fun l d ex hex p e R s m args below meth c cells slots ad D cI cZ A cx hR hA hr =>
  OkT.cons (ok_iconst (n := 0) cx (by decide +kernel) rfl) <|
  OkT.cons (ok_istore_n (kn := 2) rfl cx (by decide +kernel)) <|
  OkT.cons (ok_iload_n (kn := 1) rfl cx (by decide +kernel)) <|
  OkT.cons (ok_istore_n (kn := 3) rfl cx (by decide +kernel)) <|
  OkT.cons (ok_iconst (n := 1) cx (by decide +kernel) rfl) <|
  OkT.cons (ok_istore cx (by decide +kernel)) <|
  OkT.cons (ok_fg [1, 5] (ok_iload_n (kn := 3) rfl cx (by decide +kernel))) <|
  OkT.cons (ok_If_le (off := 58) (by decide) cx (by decide +kernel)) <|
  OkT.cons (ok_iload cx (by decide +kernel)) <|
  OkT.cons (ok_If_eq (off := 53) (by decide) cx (by decide +kernel)) <|
  OkT.cons (ok_iconst (n := 4) cx (by decide +kernel) rfl) <|
  OkT.cons (ok_iload_n (kn := 3) rfl cx (by decide +kernel)) <|
  OkT.cons (ok_bipush (n := 6) cx (by decide +kernel) rfl) <|
  OkT.cons (ok_irem cx (by decide +kernel)) <|
  OkT.cons (ok_iconst (n := 1) cx (by decide +kernel) rfl) <|
  OkT.cons (ok_isub cx (by decide +kernel)) <|
  OkT.cons (ok_imul cx (by decide +kernel)) <|
  OkT.cons (ok_istore cx (by decide +kernel)) <|
  OkT.cons (ok_iload_n (kn := 2) rfl cx (by decide +kernel)) <|
  OkT.cons (ok_iconst (n := 1) cx (by decide +kernel) rfl) <|
  OkT.cons (ok_aload_n (kn := 0) rfl cx (by decide +kernel)) <|
  OkT.cons (ok_getA (k := 9) fg_RX9_13 (by decide) rfl cx (by decide +kernel)) <|
  OkT.cons (ok_iload cx (by decide +kernel)) <|
  OkT.cons (ok_Iald cx (by decide +kernel)) <|
  OkT.cons (ok_ishl cx (by decide +kernel)) <|
  OkT.cons (ok_ior cx (by decide +kernel)) <|
  OkT.cons (ok_istore_n (kn := 2) rfl cx (by decide +kernel)) <|
  OkT.cons (ok_aload_n (kn := 0) rfl cx (by decide +kernel)) <|
  OkT.cons (ok_getA (k := 9) fg_RX9_13 (by decide) rfl cx (by decide +kernel)) <|
  OkT.cons (ok_iload cx (by decide +kernel)) <|
  OkT.cons (ok_iconst (n := 1) cx (by decide +kernel) rfl) <|
  OkT.cons (ok_iadd cx (by decide +kernel)) <|
  OkT.cons (ok_Iald cx (by decide +kernel)) <|
  OkT.cons (ok_iconst (n := 1) cx (by decide +kernel) rfl) <|
  OkT.cons (ok_Ic_ne (off := 7) (by decide) cx (by decide +kernel)) <|
  OkT.cons (ok_iconst (n := 1) cx (by decide +kernel) rfl) <|
  OkT.cons (ok_goto (off := 4) (by decide) cx (by decide +kernel)) <|
  OkT.cons (ok_fg [1, 4, 5] (ok_iconst (n := 0) cx (by decide +kernel) rfl)) <|
  OkT.cons (ok_fg [1, 4, 5] (ok_istore cx (by decide +kernel))) <|
  OkT.cons (ok_iload_n (kn := 3) rfl cx (by decide +kernel)) <|
  OkT.cons (ok_bipush (n := 6) cx (by decide +kernel) rfl) <|
  OkT.cons (ok_idiv cx (by decide +kernel)) <|
  OkT.cons (ok_istore_n (kn := 3) rfl cx (by decide +kernel)) <|
  OkT.cons (ok_goto (off := (-56)) (by decide) cx (by decide +kernel)) <|
  OkT.cons (ok_fg [0, 1, 3, 4, 5] (ok_iload_n (kn := 2) rfl cx (by decide +kernel))) <|
  OkT.cons (ok_retI hr (by decide +kernel)) <|
  OkT.nil⟩
def T_X9_thing (ex : Ex) : Tb := [(0, oAld 0 1), (1, pS (fPush (.int 0)) 1), (2, oPutI 7 0), (5, oAld 0 1), (6, oIld 1 1), (7, oCallV ex 152 1 7), (10, oIf_eq 22), (13, oIld 2 1), (14, pS (fPush (.int 0)) 1), (15, pS (fPush (.int 2)) 1), (16, oCallS ex 135 3), (19, oIf_ne 24), (22, oFg [0, 1, 2, 3] (pS (fPush (.int (-1))) 1)), (23, oRetI), (24, oFg [3] (oAld 0 1)), (25, oGetA 7 6), (28, oIld 1 1), (29, oIald), (30, oCallS ex 155 1), (33, oIst 3 1), (34, oIld 2 1), (35, oIf_ne 42), (38, oIld 3 1), (39, oGoto 75), (42, oIld 2 1), (43, pS (fPush (.int 1)) 1), (44, oIc_ne 60), (47, oAld 0 1), (48, oAld 0 1), (49, oGetA 7 6), (52, oIld 1 1), (53, oIald), (54, oCallV ex 156 1 7), (57, oGoto 75), (60, oFg [1, 2] (oIld 3 1)), (61, oAld 0 1), (62, oGetA 7 5), (65, pS (fPush (.int 5)) 1), (66, oIald), (67, oIc_lt 74), (70, pS (fPush (.int 1)) 1), (71, oGoto 75), (74, oFg [0, 1, 2, 3] (pS (fPush (.int 0)) 1)), (75, oFg [0, 1, 2, 3] (oRetI))]
set_option maxRecDepth 20000 in
theorem ta_X9_thing : TabOk MIS T_X9_thing mi_X9_thing := ⟨by decide +kernel, fun l d ex hex p e R s m args below meth c cells slots ad D cI cZ A cx hR hA hr =>
  OkT.cons (ok_aload_n (kn := 0) rfl cx (by decide +kernel)) <|
  OkT.cons (ok_iconst (n := 0) cx (by decide +kernel) rfl) <|
  OkT.cons (ok_putI fp_RX9_69 (by decide) rfl cx (by decide +kernel)) <|
  OkT.cons (ok_aload_n (kn := 0) rfl cx (by decide +kernel)) <|
  OkT.cons (ok_iload_n (kn := 1) rfl cx (by decide +kernel)) <|
  OkT.cons (ok_callV hex rfl rfl (by decide) ca_RX9_170 hR hA cx (by decide +kernel)) <|
  OkT.cons (ok_If_eq (off := 12) (by decide) cx (by decide +kernel)) <|
  OkT.cons (ok_iload_n (kn := 2) rfl cx (by decide +kernel)) <|
  OkT.cons (ok_iconst (n := 0) cx (by decide +kernel) rfl) <|
  OkT.cons (ok_iconst (n := 2) cx (by decide +kernel) rfl) <|
  OkT.cons (ok_callS hex rfl ca_RX9_72 hR hA cx (by decide +kernel)) <|
  OkT.cons (ok_If_ne (off := 5) (by decide) cx (by decide +kernel)) <|
  OkT.cons (ok_fg [0, 1, 2, 3] (ok_iconst (n := (-1)) cx (by decide +kernel) rfl)) <|
  OkT.cons (ok_retI hr (by decide +kernel)) <|
  OkT.cons (ok_fg [3] (ok_aload_n (kn := 0) rfl cx (by decide +kernel))) <|
  OkT.cons (ok_getA (k := 19) fg_RX9_25 (by decide) rfl cx (by decide +kernel)) <|
  OkT.cons (ok_iload_n (kn := 1) rfl cx (by decide +kernel)) <|
  OkT.cons (ok_Iald cx (by decide +kernel)) <|
  OkT.cons (ok_callS hex rfl ca_RX9_173 hR hA cx (by decide +kernel)) <|
  OkT.cons (ok_istore_n (kn := 3) rfl cx (by decide +kernel)) <|
  OkT.cons (ok_iload_n (kn := 2) rfl cx (by decide +kernel)) <|
  OkT.cons (ok_If_ne (off := 7) (by decide) cx (by decide +kernel)) <|
  OkT.cons (ok_iload_n (kn := 3) rfl cx (by decide +kernel)) <|
  OkT.cons (ok_goto (off := 36) (by decide) cx (by decide +kernel)) <|
  OkT.cons (ok_iload_n (kn := 2) rfl cx (by decide +kernel)) <|
  OkT.cons (ok_iconst (n := 1) cx (by decide +kernel) rfl) <|
  OkT.cons (ok_Ic_ne (off := 16) (by decide) cx (by decide +kernel)) <|
  OkT.cons (ok_aload_n (kn := 0) rfl cx (by decide +kernel)) <|
  OkT.cons (ok_aload_n (kn := 0) rfl cx (by decide +kernel)) <|
  OkT.cons (ok_getA (k := 19) fg_RX9_25 (by decide) rfl cx (by decide +kernel)) <|
  OkT.cons (ok_iload_n (kn := 1) rfl cx (by decide +kernel)) <|
  OkT.cons (ok_Iald cx (by decide +kernel)) <|
  OkT.cons (ok_callV hex rfl rfl (by decide) ca_RX9_176 hR hA cx (by decide +kernel)) <|
  OkT.cons (ok_goto (off := 18) (by decide) cx (by decide +kernel)) <|
  OkT.cons (ok_fg [1, 2] (ok_iload_n (kn := 3) rfl cx (by decide +kernel))) <|
  OkT.cons (ok_aload_n (kn := 0) rfl cx (by decide +kernel)) <|
  OkT.cons (ok_getA (k := 12) fg_RX9_22 (by decide) rfl cx (by decide +kernel)) <|
  OkT.cons (ok_iconst (n := 5) cx (by decide +kernel) rfl) <|
  OkT.cons (ok_Iald cx (by decide +kernel)) <|
  OkT.cons (ok_Ic_lt (off := 7) (by decide) cx (by decide +kernel)) <|
  OkT.cons (ok_iconst (n := 1) cx (by decide +kernel) rfl) <|
  OkT.cons (ok_goto (off := 4) (by decide) cx (by decide +kernel)) <|
  OkT.cons (ok_fg [0, 1, 2, 3] (ok_iconst (n := 0) cx (by decide +kernel) rfl)) <|
  OkT.cons (ok_fg [0, 1, 2, 3] (ok_retI hr (by decide +kernel))) <|
  OkT.nil⟩
def T_X9_spellAt (ex : Ex) : Tb := [(0, oIld 0 1), (1, oIst 2 1), (2, pS (fPush (.int 0)) 1), (3, oIst 3 1), (4, oFg [0] (oIld 3 1)), (5, oIld 1 1), (6, oIc_ge 20), (9, oIld 2 1), (10, pS (fPush (.int 6)) 2), (12, pS (fDv (fun x y => x / y)) 1), (13, oIst 2 1), (14, oInc 3 1), (17, oGoto 4), (20, oFg [0, 1, 3] (oIld 2 1)), (21, oIf_ne 29), (24, pS (fPush (.int (-9))) 2), (26, oGoto 35), (29, oFg [0, 1, 3] (oIld 2 1)), (30, pS (fPush (.int 6)) 2), (32, pS (fDv (fun x y => x - x / y * y)) 1), (33, pS (fPush (.int 1)) 1), (34, pS (fB (fun x y => x - y)) 1), (35, oFg [0, 1, 2, 3] (oRetI))]
set_option maxRecDepth 20000 in
theorem ta_X9_spellAt : TabOk MIS T_X9_spellAt mi_X9_spellAt := ⟨by decide +kernel, fun l d ex hex p e R s m args below meth c cells slots ad D cI cZ A cx hR hA hr =>
  OkT.cons (ok_iload_n (kn := 0) rfl cx (by decide +kernel)) <|
  OkT.cons (ok_istore_n (kn := 2) rfl cx (by decide +kernel)) <|
  OkT.cons (ok_iconst (n := 0) cx (by decide +kernel) rfl) <|
  OkT.cons (ok_istore_n (kn := 3) rfl cx (by decide +kernel)) <|
  OkT.cons (ok_fg [0] (ok_iload_n (kn := 3) rfl cx (by decide +kernel))) <|
  OkT.cons (ok_iload_n (kn := 1) rfl cx (by decide +kernel)) <|
  OkT.cons (ok_Ic_ge (off := 14) (by decide) cx (by decide +kernel)) <|
  OkT.cons (ok_iload_n (kn := 2) rfl cx (by decide +kernel)) <|
  OkT.cons (ok_bipush (n := 6) cx (by decide +kernel) rfl) <|
  OkT.cons (ok_idiv cx (by decide +kernel)) <|
  OkT.cons (ok_istore_n (kn := 2) rfl cx (by decide +kernel)) <|
  OkT.cons (ok_iinc (n := 1) rfl cx (by decide +kernel)) <|
  OkT.cons (ok_goto (off := (-13)) (by decide) cx (by decide +kernel)) <|
  OkT.cons (ok_fg [0, 1, 3] (ok_iload_n (kn := 2) rfl cx (by decide +kernel))) <|
  OkT.cons (ok_If_ne (off := 8) (by decide) cx (by decide +kernel)) <|
  OkT.cons (ok_bipush (n := (-9)) cx (by decide +kernel) rfl) <|
  OkT.cons (ok_goto (off := 9) (by decide) cx (by decide +kernel)) <|
  OkT.cons (ok_fg [0, 1, 3] (ok_iload_n (kn := 2) rfl cx (by decide +kernel))) <|
  OkT.cons (ok_bipush (n := 6) cx (by decide +kernel) rfl) <|
  OkT.cons (ok_irem cx (by decide +kernel)) <|
  OkT.cons (ok_iconst (n := 1) cx (by decide +kernel) rfl) <|
  OkT.cons (ok_isub cx (by decide +kernel)) <|
  OkT.cons (ok_fg [0, 1, 2, 3] (ok_retI hr (by decide +kernel))) <|
  OkT.nil⟩
def T_X9_layer (ex : Ex) : Tb := [(0, oAld 0 1), (1, pS (fPush (.int 0)) 1), (2, oPutI 7 0), (5, oAld 0 1), (6, oIld 1 1), (7, oCallV ex 152 1 7), (10, oIf_eq 17), (13, oIld 2 1), (14, oIf_ge 19), (17, oFg [0, 1, 2, 3] (pS (fPush (.int (-1))) 1)), (18, oRetI), (19, oFg [3] (oIld 2 1)), (20, pS (fPush (.int 4)) 1), (21, oIc_le 29), (24, pS (fPush (.int (-9))) 2), (26, oGoto 39), (29, oFg [3] (oAld 0 1)), (30, oGetA 7 6), (33, oIld 1 1), (34, oIald), (35, oIld 2 1), (36, oCallS ex 158 2), (39, oFg [0, 1, 2, 3] (oIst 3 1)), (40, oIld 3 1), (41, pS (fPush (.int (-9))) 2), (43, oIc_ne 51), (46, pS (fPush (.int (-5))) 2), (48, oGoto 52), (51, oFg [0, 1, 2] (oIld 3 1)), (52, oFg [0, 1, 2, 3] (oRetI))]
set_option maxRecDepth 20000 in
theorem ta_X9_layer : TabOk MIS T_X9_layer mi_X9_layer := ⟨by decide +kernel, fun l d ex hex p e R s m args below meth c cells slots ad D cI cZ A cx hR hA hr =>
  OkT.cons (ok_aload_n (kn := 0) rfl cx (by decide +kernel)) <|
  OkT.cons (ok_iconst (n := 0) cx (by decide +kernel) rfl) <|
  OkT.cons (ok_putI fp_RX9_69 (by decide) rfl cx (by decide +kernel)) <|
  OkT.cons (ok_aload_n (kn := 0) rfl cx (by decide +kernel)) <|
  OkT.cons (ok_iload_n (kn := 1) rfl cx (by decide +kernel)) <|
  OkT.cons (ok_callV hex rfl rfl (by decide) ca_RX9_170 hR hA cx (by decide +kernel)) <|
  OkT.cons (ok_If_eq (off := 7) (by decide) cx (by decide +kernel)) <|
  OkT.cons (ok_iload_n (kn := 2) rfl cx (by decide +kernel)) <|
  OkT.cons (ok_If_ge (off := 5) (by decide) cx (by decide +kernel)) <|
  OkT.cons (ok_fg [0, 1, 2, 3] (ok_iconst (n := (-1)) cx (by decide +kernel) rfl)) <|
  OkT.cons (ok_retI hr (by decide +kernel)) <|
  OkT.cons (ok_fg [3] (ok_iload_n (kn := 2) rfl cx (by decide +kernel))) <|
  OkT.cons (ok_iconst (n := 4) cx (by decide +kernel) rfl) <|
  OkT.cons (ok_Ic_le (off := 8) (by decide) cx (by decide +kernel)) <|
  OkT.cons (ok_bipush (n := (-9)) cx (by decide +kernel) rfl) <|
  OkT.cons (ok_goto (off := 13) (by decide) cx (by decide +kernel)) <|
  OkT.cons (ok_fg [3] (ok_aload_n (kn := 0) rfl cx (by decide +kernel))) <|
  OkT.cons (ok_getA (k := 19) fg_RX9_25 (by decide) rfl cx (by decide +kernel)) <|
  OkT.cons (ok_iload_n (kn := 1) rfl cx (by decide +kernel)) <|
  OkT.cons (ok_Iald cx (by decide +kernel)) <|
  OkT.cons (ok_iload_n (kn := 2) rfl cx (by decide +kernel)) <|
  OkT.cons (ok_callS hex rfl ca_RX9_179 hR hA cx (by decide +kernel)) <|
  OkT.cons (ok_fg [0, 1, 2, 3] (ok_istore_n (kn := 3) rfl cx (by decide +kernel))) <|
  OkT.cons (ok_iload_n (kn := 3) rfl cx (by decide +kernel)) <|
  OkT.cons (ok_bipush (n := (-9)) cx (by decide +kernel) rfl) <|
  OkT.cons (ok_Ic_ne (off := 8) (by decide) cx (by decide +kernel)) <|
  OkT.cons (ok_bipush (n := (-5)) cx (by decide +kernel) rfl) <|
  OkT.cons (ok_goto (off := 4) (by decide) cx (by decide +kernel)) <|
  OkT.cons (ok_fg [0, 1, 2] (ok_iload_n (kn := 3) rfl cx (by decide +kernel))) <|
  OkT.cons (ok_fg [0, 1, 2, 3] (ok_retI hr (by decide +kernel))) <|
  OkT.nil⟩
def T_X9_pupil (ex : Ex) : Tb := [(0, oAld 0 1), (1, pS (fPush (.int 0)) 1), (2, oPutI 7 0), (5, oAld 0 1), (6, oIld 1 1), (7, oCallV ex 153 1 7), (10, oIf_eq 22), (13, oAld 0 1), (14, oGetA 7 4), (17, oIld 1 1), (18, oIald), (19, oGoto 23), (22, oFg [0, 1] (pS (fPush (.int (-1))) 1)), (23, oFg [0, 1] (oRetI))]
set_option maxRecDepth 20000 in
theorem ta_X9_pupil : TabOk MIS T_X9_pupil mi_X9_pupil := ⟨by decide +kernel, fun l d ex hex p e R s m args below meth c cells slots ad D cI cZ A cx hR hA hr =>
  OkT.cons (ok_aload_n (kn := 0) rfl cx (by decide +kernel)) <|
  OkT.cons (ok_iconst (n := 0) cx (by decide +kernel) rfl) <|
  OkT.cons (ok_putI fp_RX9_69 (by decide) rfl cx (by decide +kernel)) <|
  OkT.cons (ok_aload_n (kn := 0) rfl cx (by decide +kernel)) <|
  OkT.cons (ok_iload_n (kn := 1) rfl cx (by decide +kernel)) <|
  OkT.cons (ok_callV hex rfl rfl (by decide) ca_RX9_182 hR hA cx (by decide +kernel)) <|
  OkT.cons (ok_If_eq (off := 12) (by decide) cx (by decide +kernel)) <|
  OkT.cons (ok_aload_n (kn := 0) rfl cx (by decide +kernel)) <|
  OkT.cons (ok_getA (k := 11) fg_RX9_19 (by decide) rfl cx (by decide +kernel)) <|
  OkT.cons (ok_iload_n (kn := 1) rfl cx (by decide +kernel)) <|
  OkT.cons (ok_Iald cx (by decide +kernel)) <|
  OkT.cons (ok_goto (off := 4) (by decide) cx (by decide +kernel)) <|
  OkT.cons (ok_fg [0, 1] (ok_iconst (n := (-1)) cx (by decide +kernel) rfl)) <|
  OkT.cons (ok_fg [0, 1] (ok_retI hr (by decide +kernel))) <|
  OkT.nil⟩
def T_X9_may (ex : Ex) : Tb := [(0, oAld 0 1), (1, oGetA 7 4), (4, oIld 1 1), (5, oIald), (6, oIld 2 1), (7, pS (fB (fun x y => x >>> (y &&& 31))) 1), (8, pS (fPush (.int 1)) 1), (9, pS (fB (fun x y => x &&& y)) 1), (10, pS (fPush (.int 1)) 1), (11, oIc_ne 18), (14, pS (fPush (.int 1)) 1), (15, oGoto 19), (18, oFg [0, 1, 2] (pS (fPush (.int 0)) 1)), (19, oFg [0, 1, 2] (oRetZ))]
set_option maxRecDepth 20000 in
theorem ta_X9_may : TabOk MIS T_X9_may mi_X9_may := ⟨by decide +kernel, fun l d ex hex p e R s m args below meth c cells slots ad D cI cZ A cx hR hA hr =>
  OkT.cons (ok_aload_n (kn := 0) rfl cx (by decide +kernel)) <|
  OkT.cons (ok_getA (k := 11) fg_RX9_19 (by decide) rfl cx (by decide +kernel)) <|
  OkT.cons (ok_iload_n (kn := 1) rfl cx (by decide +kernel)) <|
  OkT.cons (ok_Iald cx (by decide +kernel)) <|
  OkT.cons (ok_iload_n (kn := 2) rfl cx (by decide +kernel)) <|
  OkT.cons (ok_ishr cx (by decide +kernel)) <|
  OkT.cons (ok_iconst (n := 1) cx (by decide +kernel) rfl) <|
  OkT.cons (ok_iand cx (by decide +kernel)) <|
  OkT.cons (ok_iconst (n := 1) cx (by decide +kernel) rfl) <|
  OkT.cons (ok_Ic_ne (off := 7) (by decide) cx (by decide +kernel)) <|
  OkT.cons (ok_iconst (n := 1) cx (by decide +kernel) rfl) <|
  OkT.cons (ok_goto (off := 4) (by decide) cx (by decide +kernel)) <|
  OkT.cons (ok_fg [0, 1, 2] (ok_iconst (n := 0) cx (by decide +kernel) rfl)) <|
  OkT.cons (ok_fg [0, 1, 2] (ok_retZ hr (by decide +kernel))) <|
  OkT.nil⟩
def T_X9_becomes (ex : Ex) : Tb := [(0, oAld 0 1), (1, oGetI 7 23), (4, pS (fPush (.int 12)) 2), (6, oIc_ne 47), (9, pS (fPush (.int 0)) 1), (10, oIst 4 2), (12, oIld 4 2), (14, pS (fPush (.int 33)) 2), (16, oIc_ge 41), (19, oAld 0 1), (20, oGetA 7 9), (23, oIld 4 2), (25, oAld 0 1), (26, oGetA 7 9), (29, oIld 4 2), (31, pS (fPush (.int 3)) 1), (32, pS (fB (fun x y => x + y)) 1), (33, oIald), (34, oIast), (35, oInc 4 1), (38, oGoto 12), (41, oFg [4] (oAld 0 1)), (42, pS (fPush (.int 11)) 2), (44, oPutI 7 23), (47, oFg [4] (pS (fPush (.int 3)) 1)), (48, oAld 0 1), (49, oGetI 7 23), (52, pS (fB (fun x y => x * y)) 1), (53, oIst 4 2), (55, oAld 0 1), (56, oGetA 7 9), (59, oIld 4 2), (61, oIld 1 1), (62, oIast), (63, oAld 0 1), (64, oGetA 7 9), (67, oIld 4 2), (69, pS (fPush (.int 1)) 1), (70, pS (fB (fun x y => x + y)) 1), (71, oAld 0 1), (72, oGetA 7 6), (75, oIld 1 1), (76, oIald), (77, oIast), (78, oAld 0 1), (79, oGetA 7 9), (82, oIld 4 2), (84, pS (fPush (.int 2)) 1), (85, pS (fB (fun x y => x + y)) 1), (86, oAld 0 1), (87, oGetA 7 6), (90, pS (fPush (.int 4)) 1), (91, oIald), (92, oIast), (93, oAld 0 1), (94, pS fDup 1), (95, oGetI 7 23), (98, pS (fPush (.int 1)) 1), (99, pS (fB (fun x y => x + y)) 1), (100, oPutI 7 23), (103, oAld 0 1), (104, oGetA 7 6), (107, oIld 1 1), (108, oIld 2 1), (109, oIast), (110, oAld 0 1), (111, oGetA 7 6), (114, pS (fPush (.int 4)) 1), (115, pS fDup2 1), (116, oIald), (117, oIld 3 1), (118, pS (fB (fun x y => x + y)) 1), (119, oIast), (120, oRetV)]
set_option maxRecDepth 20000 in
theorem ta_X9_becomes : TabOk MIS T_X9_becomes mi_X9_becomes := ⟨by decide +kernel, fun l d ex hex p e R s m args below meth c cells slots ad D cI cZ A cx hR hA hr =>
  OkT.cons (ok_aload_n (kn := 0) rfl cx (by decide +kernel)) <|
  OkT.cons (ok_getI fg_RX9_157 (by decide) rfl cx (by decide +kernel)) <|
  OkT.cons (ok_bipush (n := 12) cx (by decide +kernel) rfl) <|
  OkT.cons (ok_Ic_ne (off := 41) (by decide) cx (by decide +kernel)) <|
  OkT.cons (ok_iconst (n := 0) cx (by decide +kernel) rfl) <|
  OkT.cons (ok_istore cx (by decide +kernel)) <|
  OkT.cons (ok_iload cx (by decide +kernel)) <|
  OkT.cons (ok_bipush (n := 33) cx (by decide +kernel) rfl) <|
  OkT.cons (ok_Ic_ge (off := 25) (by decide) cx (by decide +kernel)) <|
  OkT.cons (ok_aload_n (kn := 0) rfl cx (by decide +kernel)) <|
  OkT.cons (ok_getA (k := 22) fg_RX9_35 (by decide) rfl cx (by decide +kernel)) <|
  OkT.cons (ok_iload cx (by decide +kernel)) <|
  OkT.cons (ok_aload_n (kn := 0) rfl cx (by decide +kernel)) <|
  OkT.cons (ok_getA (k := 22) fg_RX9_35 (by decide) rfl cx (by decide +kernel)) <|
  OkT.cons (ok_iload cx (by decide +kernel)) <|
  OkT.cons (ok_iconst (n := 3) cx (by decide +kernel) rfl) <|
  OkT.cons (ok_iadd cx (by decide +kernel)) <|
  OkT.cons (ok_Iald cx (by decide +kernel)) <|
  OkT.cons (ok_Iast cx (by decide +kernel)) <|
  OkT.cons (ok_iinc (n := 1) rfl cx (by decide +kernel)) <|
  OkT.cons (ok_goto (off := (-26)) (by decide) cx (by decide +kernel)) <|
  OkT.cons (ok_fg [4] (ok_aload_n (kn := 0) rfl cx (by decide +kernel))) <|
  OkT.cons (ok_bipush (n := 11) cx (by decide +kernel) rfl) <|
  OkT.cons (ok_putI fp_RX9_157 (by decide) rfl cx (by decide +kernel)) <|
  OkT.cons (ok_fg [4] (ok_iconst (n := 3) cx (by decide +kernel) rfl)) <|
  OkT.cons (ok_aload_n (kn := 0) rfl cx (by decide +kernel)) <|
  OkT.cons (ok_getI fg_RX9_157 (by decide) rfl cx (by decide +kernel)) <|
  OkT.cons (ok_imul cx (by decide +kernel)) <|
  OkT.cons (ok_istore cx (by decide +kernel)) <|
  OkT.cons (ok_aload_n (kn := 0) rfl cx (by decide +kernel)) <|
  OkT.cons (ok_getA (k := 22) fg_RX9_35 (by decide) rfl cx (by decide +kernel)) <|
  OkT.cons (ok_iload cx (by decide +kernel)) <|
  OkT.cons (ok_iload_n (kn := 1) rfl cx (by decide +kernel)) <|
  OkT.cons (ok_Iast cx (by decide +kernel)) <|
  OkT.cons (ok_aload_n (kn := 0) rfl cx (by decide +kernel)) <|
  OkT.cons (ok_getA (k := 22) fg_RX9_35 (by decide) rfl cx (by decide +kernel)) <|
  OkT.cons (ok_iload cx (by decide +kernel)) <|
  OkT.cons (ok_iconst (n := 1) cx (by decide +kernel) rfl) <|
  OkT.cons (ok_iadd cx (by decide +kernel)) <|
  OkT.cons (ok_aload_n (kn := 0) rfl cx (by decide +kernel)) <|
  OkT.cons (ok_getA (k := 19) fg_RX9_25 (by decide) rfl cx (by decide +kernel)) <|
  OkT.cons (ok_iload_n (kn := 1) rfl cx (by decide +kernel)) <|
  OkT.cons (ok_Iald cx (by decide +kernel)) <|
  OkT.cons (ok_Iast cx (by decide +kernel)) <|
  OkT.cons (ok_aload_n (kn := 0) rfl cx (by decide +kernel)) <|
  OkT.cons (ok_getA (k := 22) fg_RX9_35 (by decide) rfl cx (by decide +kernel)) <|
  OkT.cons (ok_iload cx (by decide +kernel)) <|
  OkT.cons (ok_iconst (n := 2) cx (by decide +kernel) rfl) <|
  OkT.cons (ok_iadd cx (by decide +kernel)) <|
  OkT.cons (ok_aload_n (kn := 0) rfl cx (by decide +kernel)) <|
  OkT.cons (ok_getA (k := 19) fg_RX9_25 (by decide) rfl cx (by decide +kernel)) <|
  OkT.cons (ok_iconst (n := 4) cx (by decide +kernel) rfl) <|
  OkT.cons (ok_Iald cx (by decide +kernel)) <|
  OkT.cons (ok_Iast cx (by decide +kernel)) <|
  OkT.cons (ok_aload_n (kn := 0) rfl cx (by decide +kernel)) <|
  OkT.cons (ok_dup cx (by decide +kernel)) <|
  OkT.cons (ok_getI fg_RX9_157 (by decide) rfl cx (by decide +kernel)) <|
  OkT.cons (ok_iconst (n := 1) cx (by decide +kernel) rfl) <|
  OkT.cons (ok_iadd cx (by decide +kernel)) <|
  OkT.cons (ok_putI fp_RX9_157 (by decide) rfl cx (by decide +kernel)) <|
  OkT.cons (ok_aload_n (kn := 0) rfl cx (by decide +kernel)) <|
  OkT.cons (ok_getA (k := 19) fg_RX9_25 (by decide) rfl cx (by decide +kernel)) <|
  OkT.cons (ok_iload_n (kn := 1) rfl cx (by decide +kernel)) <|
  OkT.cons (ok_iload_n (kn := 2) rfl cx (by decide +kernel)) <|
  OkT.cons (ok_Iast cx (by decide +kernel)) <|
  OkT.cons (ok_aload_n (kn := 0) rfl cx (by decide +kernel)) <|
  OkT.cons (ok_getA (k := 19) fg_RX9_25 (by decide) rfl cx (by decide +kernel)) <|
  OkT.cons (ok_iconst (n := 4) cx (by decide +kernel) rfl) <|
  OkT.cons (ok_dup2 cx (by decide +kernel)) <|
  OkT.cons (ok_Iald cx (by decide +kernel)) <|
  OkT.cons (ok_iload_n (kn := 3) rfl cx (by decide +kernel)) <|
  OkT.cons (ok_iadd cx (by decide +kernel)) <|
  OkT.cons (ok_Iast cx (by decide +kernel)) <|
  OkT.cons (ok_retV hr (by decide +kernel)) <|
  OkT.nil⟩
def T_X9_lay (ex : Ex) : Tb := [(0, oAld 0 1), (1, pS (fPush (.int 0)) 1), (2, oPutI 7 0), (5, oAld 0 1), (6, oIld 1 1), (7, oCallV ex 153 1 7), (10, oIf_eq 29), (13, oAld 0 1), (14, oIld 2 1), (15, oCallV ex 152 1 7), (18, oIf_eq 29), (21, oAld 0 1), (22, oIld 3 1), (23, oCallV ex 151 1 7), (26, oIf_ne 31), (29, oFg [0, 1, 2, 3] (pS (fPush (.int (-1))) 1)), (30, oRetI), (31, oAld 0 1), (32, oIld 1 1), (33, oIld 3 1), (34, oCallV ex 161 2 7), (37, oIf_ne 43), (40, pS (fPush (.int (-2))) 2), (42, oRetI), (43, oFg [1] (oAld 0 1)), (44, oGetA 7 6), (47, oIld 2 1), (48, oIald), (49, oCallS ex 155 1), (52, pS (fPush (.int 5)) 1), (53, oIc_ne 59), (56, pS (fPush (.int (-3))) 2), (58, oRetI), (59, oFg [1] (oAld 0 1)), (60, oIld 2 1), (61, pS (fPush (.int 6)) 2), (63, oAld 0 1), (64, oGetA 7 6), (67, oIld 2 1), (68, oIald), (69, pS (fB (fun x y => x * y)) 1), (70, oIld 3 1), (71, pS (fB (fun x y => x + y)) 1), (72, pS (fPush (.int 1)) 1), (73, pS (fB (fun x y => x + y)) 1), (74, oAld 0 1), (75, oGetA 7 2), (78, pS (fPush (.int 4)) 1), (79, oIld 3 1), (80, pS (fB (fun x y => x * y)) 1), (81, pS (fPush (.int 2)) 1), (82, pS (fB (fun x y => x + y)) 1), (83, oIald), (84, oCallV ex 162 3 7), (87, oAld 0 1), (88, oGetA 7 2), (91, pS (fPush (.int 4)) 1), (92, oIld 3 1), (93, pS (fB (fun x y => x * y)) 1), (94, pS (fPush (.int 2)) 1), (95, pS (fB (fun x y => x + y)) 1), (96, oIald), (97, oRetI)]
set_option maxRecDepth 20000 in
theorem ta_X9_lay : TabOk MIS T_X9_lay mi_X9_lay := ⟨by decide +kernel, fun l d ex hex p e R s m args below meth c cells slots ad D cI cZ A cx hR hA hr =>
  OkT.cons (ok_aload_n (kn := 0) rfl cx (by decide +kernel)) <|
  OkT.cons (ok_iconst (n := 0) cx (by decide +kernel) rfl) <|
  OkT.cons (ok_putI fp_RX9_69 (by decide) rfl cx (by decide +kernel)) <|
  OkT.cons (ok_aload_n (kn := 0) rfl cx (by decide +kernel)) <|
  OkT.cons (ok_iload_n (kn := 1) rfl cx (by decide +kernel)) <|
  OkT.cons (ok_callV hex rfl rfl (by decide) ca_RX9_182 hR hA cx (by decide +kernel)) <|
  OkT.cons (ok_If_eq (off := 19) (by decide) cx (by decide +kernel)) <|
  OkT.cons (ok_aload_n (kn := 0) rfl cx (by decide +kernel)) <|
  OkT.cons (ok_iload_n (kn := 2) rfl cx (by decide +kernel)) <|
  OkT.cons (ok_callV hex rfl rfl (by decide) ca_RX9_170 hR hA cx (by decide +kernel)) <|
  OkT.cons (ok_If_eq (off := 11) (by decide) cx (by decide +kernel)) <|
  OkT.cons (ok_aload_n (kn := 0) rfl cx (by decide +kernel)) <|
  OkT.cons (ok_iload_n (kn := 3) rfl cx (by decide +kernel)) <|
  OkT.cons (ok_callV hex rfl rfl (by decide) ca_RX9_167 hR hA cx (by decide +kernel)) <|
  OkT.cons (ok_If_ne (off := 5) (by decide) cx (by decide +kernel)) <|
  OkT.cons (ok_fg [0, 1, 2, 3] (ok_iconst (n := (-1)) cx (by decide +kernel) rfl)) <|
  OkT.cons (ok_retI hr (by decide +kernel)) <|
  OkT.cons (ok_aload_n (kn := 0) rfl cx (by decide +kernel)) <|
  OkT.cons (ok_iload_n (kn := 1) rfl cx (by decide +kernel)) <|
  OkT.cons (ok_iload_n (kn := 3) rfl cx (by decide +kernel)) <|
  OkT.cons (ok_callV hex rfl rfl (by decide) ca_RX9_185 hR hA cx (by decide +kernel)) <|
  OkT.cons (ok_If_ne (off := 6) (by decide) cx (by decide +kernel)) <|
  OkT.cons (ok_bipush (n := (-2)) cx (by decide +kernel) rfl) <|
  OkT.cons (ok_retI hr (by decide +kernel)) <|
  OkT.cons (ok_fg [1] (ok_aload_n (kn := 0) rfl cx (by decide +kernel))) <|
  OkT.cons (ok_getA (k := 19) fg_RX9_25 (by decide) rfl cx (by decide +kernel)) <|
  OkT.cons (ok_iload_n (kn := 2) rfl cx (by decide +kernel)) <|
  OkT.cons (ok_Iald cx (by decide +kernel)) <|
  OkT.cons (ok_callS hex rfl ca_RX9_173 hR hA cx (by decide +kernel)) <|
  OkT.cons (ok_iconst (n := 5) cx (by decide +kernel) rfl) <|
  OkT.cons (ok_Ic_ne (off := 6) (by decide) cx (by decide +kernel)) <|
  OkT.cons (ok_bipush (n := (-3)) cx (by decide +kernel) rfl) <|
  OkT.cons (ok_retI hr (by decide +kernel)) <|
  OkT.cons (ok_fg [1] (ok_aload_n (kn := 0) rfl cx (by decide +kernel))) <|
  OkT.cons (ok_iload_n (kn := 2) rfl cx (by decide +kernel)) <|
  OkT.cons (ok_bipush (n := 6) cx (by decide +kernel) rfl) <|
  OkT.cons (ok_aload_n (kn := 0) rfl cx (by decide +kernel)) <|
  OkT.cons (ok_getA (k := 19) fg_RX9_25 (by decide) rfl cx (by decide +kernel)) <|
  OkT.cons (ok_iload_n (kn := 2) rfl cx (by decide +kernel)) <|
  OkT.cons (ok_Iald cx (by decide +kernel)) <|
  OkT.cons (ok_imul cx (by decide +kernel)) <|
  OkT.cons (ok_iload_n (kn := 3) rfl cx (by decide +kernel)) <|
  OkT.cons (ok_iadd cx (by decide +kernel)) <|
  OkT.cons (ok_iconst (n := 1) cx (by decide +kernel) rfl) <|
  OkT.cons (ok_iadd cx (by decide +kernel)) <|
  OkT.cons (ok_aload_n (kn := 0) rfl cx (by decide +kernel)) <|
  OkT.cons (ok_getA (k := 9) fg_RX9_13 (by decide) rfl cx (by decide +kernel)) <|
  OkT.cons (ok_iconst (n := 4) cx (by decide +kernel) rfl) <|
  OkT.cons (ok_iload_n (kn := 3) rfl cx (by decide +kernel)) <|
  OkT.cons (ok_imul cx (by decide +kernel)) <|
  OkT.cons (ok_iconst (n := 2) cx (by decide +kernel) rfl) <|
  OkT.cons (ok_iadd cx (by decide +kernel)) <|
  OkT.cons (ok_Iald cx (by decide +kernel)) <|
  OkT.cons (ok_callV hex rfl rfl (by decide) ca_RX9_189 hR hA cx (by decide +kernel)) <|
  OkT.cons (ok_aload_n (kn := 0) rfl cx (by decide +kernel)) <|
  OkT.cons (ok_getA (k := 9) fg_RX9_13 (by decide) rfl cx (by decide +kernel)) <|
  OkT.cons (ok_iconst (n := 4) cx (by decide +kernel) rfl) <|
  OkT.cons (ok_iload_n (kn := 3) rfl cx (by decide +kernel)) <|
  OkT.cons (ok_imul cx (by decide +kernel)) <|
  OkT.cons (ok_iconst (n := 2) cx (by decide +kernel) rfl) <|
  OkT.cons (ok_iadd cx (by decide +kernel)) <|
  OkT.cons (ok_Iald cx (by decide +kernel)) <|
  OkT.cons (ok_retI hr (by decide +kernel)) <|
  OkT.nil⟩
def T_X9_lift (ex : Ex) : Tb := [(0, oAld 0 1), (1, pS (fPush (.int 0)) 1), (2, oPutI 7 0), (5, oAld 0 1), (6, oIld 1 1), (7, oCallV ex 153 1 7), (10, oIf_eq 21), (13, oAld 0 1), (14, oIld 2 1), (15, oCallV ex 152 1 7), (18, oIf_ne 23), (21, oFg [0, 1, 2, 3] (pS (fPush (.int (-1))) 1)), (22, oRetI), (23, oFg [3] (oAld 0 1)), (24, oGetA 7 6), (27, oIld 2 1), (28, oIald), (29, pS (fPush (.int 0)) 1), (30, oCallS ex 158 2), (33, oIst 3 1), (34, oIld 3 1), (35, pS (fPush (.int (-9))) 2), (37, oIc_eq 49), (40, oAld 0 1), (41, oIld 1 1), (42, oIld 3 1), (43, oCallV ex 161 2 7), (46, oIf_ne 52), (49, oFg [0, 1, 2, 3] (pS (fPush (.int (-2))) 2)), (51, oRetI), (52, oFg [1] (oAld 0 1)), (53, oIld 2 1), (54, oAld 0 1), (55, oGetA 7 6), (58, oIld 2 1), (59, oIald), (60, pS (fPush (.int 6)) 2), (62, pS (fDv (fun x y => x / y)) 1), (63, oAld 0 1), (64, oGetA 7 2), (67, pS (fPush (.int 4)) 1), (68, oIld 3 1), (69, pS (fB (fun x y => x * y)) 1), (70, pS (fPush (.int 3)) 1), (71, pS (fB (fun x y => x + y)) 1), (72, oIald), (73, oCallV ex 162 3 7), (76, oIld 3 1), (77, oRetI)]
set_option maxRecDepth 20000 in
theorem ta_X9_lift : TabOk MIS T_X9_lift mi_X9_lift := ⟨by decide +kernel, fun l d ex hex p e R s m args below meth c cells slots ad D cI cZ A cx hR hA hr =>
  OkT.cons (ok_aload_n (kn := 0) rfl cx (by decide +kernel)) <|
  OkT.cons (ok_iconst (n := 0) cx (by decide +kernel) rfl) <|
  OkT.cons (ok_putI fp_RX9_69 (by decide) rfl cx (by decide +kernel)) <|
  OkT.cons (ok_aload_n (kn := 0) rfl cx (by decide +kernel)) <|
  OkT.cons (ok_iload_n (kn := 1) rfl cx (by decide +kernel)) <|
  OkT.cons (ok_callV hex rfl rfl (by decide) ca_RX9_182 hR hA cx (by decide +kernel)) <|
  OkT.cons (ok_If_eq (off := 11) (by decide) cx (by decide +kernel)) <|
  OkT.cons (ok_aload_n (kn := 0) rfl cx (by decide +kernel)) <|
  OkT.cons (ok_iload_n (kn := 2) rfl cx (by decide +kernel)) <|
  OkT.cons (ok_callV hex rfl rfl (by decide) ca_RX9_170 hR hA cx (by decide +kernel)) <|
  OkT.cons (ok_If_ne (off := 5) (by decide) cx (by decide +kernel)) <|
  OkT.cons (ok_fg [0, 1, 2, 3] (ok_iconst (n := (-1)) cx (by decide +kernel) rfl)) <|
  OkT.cons (ok_retI hr (by decide +kernel)) <|
  OkT.cons (ok_fg [3] (ok_aload_n (kn := 0) rfl cx (by decide +kernel))) <|
  OkT.cons (ok_getA (k := 19) fg_RX9_25 (by decide) rfl cx (by decide +kernel)) <|
  OkT.cons (ok_iload_n (kn := 2) rfl cx (by decide +kernel)) <|
  OkT.cons (ok_Iald cx (by decide +kernel)) <|
  OkT.cons (ok_iconst (n := 0) cx (by decide +kernel) rfl) <|
  OkT.cons (ok_callS hex rfl ca_RX9_179 hR hA cx (by decide +kernel)) <|
  OkT.cons (ok_istore_n (kn := 3) rfl cx (by decide +kernel)) <|
  OkT.cons (ok_iload_n (kn := 3) rfl cx (by decide +kernel)) <|
  OkT.cons (ok_bipush (n := (-9)) cx (by decide +kernel) rfl) <|
  OkT.cons (ok_Ic_eq (off := 12) (by decide) cx (by decide +kernel)) <|
  OkT.cons (ok_aload_n (kn := 0) rfl cx (by decide +kernel)) <|
  OkT.cons (ok_iload_n (kn := 1) rfl cx (by decide +kernel)) <|
  OkT.cons (ok_iload_n (kn := 3) rfl cx (by decide +kernel)) <|
  OkT.cons (ok_callV hex rfl rfl (by decide) ca_RX9_185 hR hA cx (by decide +kernel)) <|
  OkT.cons (ok_If_ne (off := 6) (by decide) cx (by decide +kernel)) <|
  OkT.cons (ok_fg [0, 1, 2, 3] (ok_bipush (n := (-2)) cx (by decide +kernel) rfl)) <|
  OkT.cons (ok_retI hr (by decide +kernel)) <|
  OkT.cons (ok_fg [1] (ok_aload_n (kn := 0) rfl cx (by decide +kernel))) <|
  OkT.cons (ok_iload_n (kn := 2) rfl cx (by decide +kernel)) <|
  OkT.cons (ok_aload_n (kn := 0) rfl cx (by decide +kernel)) <|
  OkT.cons (ok_getA (k := 19) fg_RX9_25 (by decide) rfl cx (by decide +kernel)) <|
  OkT.cons (ok_iload_n (kn := 2) rfl cx (by decide +kernel)) <|
  OkT.cons (ok_Iald cx (by decide +kernel)) <|
  OkT.cons (ok_bipush (n := 6) cx (by decide +kernel) rfl) <|
  OkT.cons (ok_idiv cx (by decide +kernel)) <|
  OkT.cons (ok_aload_n (kn := 0) rfl cx (by decide +kernel)) <|
  OkT.cons (ok_getA (k := 9) fg_RX9_13 (by decide) rfl cx (by decide +kernel)) <|
  OkT.cons (ok_iconst (n := 4) cx (by decide +kernel) rfl) <|
  OkT.cons (ok_iload_n (kn := 3) rfl cx (by decide +kernel)) <|
  OkT.cons (ok_imul cx (by decide +kernel)) <|
  OkT.cons (ok_iconst (n := 3) cx (by decide +kernel) rfl) <|
  OkT.cons (ok_iadd cx (by decide +kernel)) <|
  OkT.cons (ok_Iald cx (by decide +kernel)) <|
  OkT.cons (ok_callV hex rfl rfl (by decide) ca_RX9_189 hR hA cx (by decide +kernel)) <|
  OkT.cons (ok_iload_n (kn := 3) rfl cx (by decide +kernel)) <|
  OkT.cons (ok_retI hr (by decide +kernel)) <|
  OkT.nil⟩
def T_X9_swapped (ex : Ex) : Tb := [(0, oIld 0 1), (1, pS (fPush (.int 36)) 2), (3, pS (fDv (fun x y => x / y)) 1), (4, pS (fPush (.int 36)) 2), (6, pS (fB (fun x y => x * y)) 1), (7, oIld 0 1), (8, pS (fPush (.int 6)) 2), (10, pS (fDv (fun x y => x - x / y * y)) 1), (11, pS (fPush (.int 6)) 2), (13, pS (fB (fun x y => x * y)) 1), (14, pS (fB (fun x y => x + y)) 1), (15, oIld 0 1), (16, pS (fPush (.int 6)) 2), (18, pS (fDv (fun x y => x / y)) 1), (19, pS (fPush (.int 6)) 2), (21, pS (fDv (fun x y => x - x / y * y)) 1), (22, pS (fB (fun x y => x + y)) 1), (23, oRetI)]
set_option maxRecDepth 20000 in
theorem ta_X9_swapped : TabOk MIS T_X9_swapped mi_X9_swapped := ⟨by decide +kernel, fun l d ex hex p e R s m args below meth c cells slots ad D cI cZ A cx hR hA hr =>
  OkT.cons (ok_iload_n (kn := 0) rfl cx (by decide +kernel)) <|
  OkT.cons (ok_bipush (n := 36) cx (by decide +kernel) rfl) <|
  OkT.cons (ok_idiv cx (by decide +kernel)) <|
  OkT.cons (ok_bipush (n := 36) cx (by decide +kernel) rfl) <|
  OkT.cons (ok_imul cx (by decide +kernel)) <|
  OkT.cons (ok_iload_n (kn := 0) rfl cx (by decide +kernel)) <|
  OkT.cons (ok_bipush (n := 6) cx (by decide +kernel) rfl) <|
  OkT.cons (ok_irem cx (by decide +kernel)) <|
  OkT.cons (ok_bipush (n := 6) cx (by decide +kernel) rfl) <|
  OkT.cons (ok_imul cx (by decide +kernel)) <|
  OkT.cons (ok_iadd cx (by decide +kernel)) <|
  OkT.cons (ok_iload_n (kn := 0) rfl cx (by decide +kernel)) <|
  OkT.cons (ok_bipush (n := 6) cx (by decide +kernel) rfl) <|
  OkT.cons (ok_idiv cx (by decide +kernel)) <|
  OkT.cons (ok_bipush (n := 6) cx (by decide +kernel) rfl) <|
  OkT.cons (ok_irem cx (by decide +kernel)) <|
  OkT.cons (ok_iadd cx (by decide +kernel)) <|
  OkT.cons (ok_retI hr (by decide +kernel)) <|
  OkT.nil⟩
def T_X9_swap (ex : Ex) : Tb := [(0, oAld 0 1), (1, pS (fPush (.int 0)) 1), (2, oPutI 7 0), (5, oAld 0 1), (6, oIld 1 1), (7, oCallV ex 153 1 7), (10, oIf_eq 21), (13, oAld 0 1), (14, oIld 2 1), (15, oCallV ex 152 1 7), (18, oIf_ne 23), (21, oFg [0, 1, 2, 3, 4] (pS (fPush (.int (-1))) 1)), (22, oRetI), (23, oFg [3, 4] (oAld 0 1)), (24, oGetA 7 6), (27, oIld 2 1), (28, oIald), (29, pS (fPush (.int 0)) 1), (30, oCallS ex 158 2), (33, oIst 3 1), (34, oAld 0 1), (35, oGetA 7 6), (38, oIld 2 1), (39, oIald), (40, pS (fPush (.int 1)) 1), (41, oCallS ex 158 2), (44, oIst 4 2), (46, oIld 4 2), (48, pS (fPush (.int (-9))) 2), (50, oIc_eq 72), (53, oAld 0 1), (54, oIld 1 1), (55, oIld 3 1), (56, oCallV ex 161 2 7), (59, oIf_eq 72), (62, oAld 0 1), (63, oIld 1 1), (64, oIld 4 2), (66, oCallV ex 161 2 7), (69, oIf_ne 75), (72, oFg [0, 1, 2, 3, 4] (pS (fPush (.int (-2))) 2)), (74, oRetI), (75, oFg [1, 3] (oAld 0 1)), (76, oIld 2 1), (77, oAld 0 1), (78, oGetA 7 6), (81, oIld 2 1), (82, oIald), (83, oCallS ex 165 1), (86, oAld 0 1), (87, oGetA 7 5), (90, pS (fPush (.int 3)) 1), (91, oIald), (92, oCallV ex 162 3 7), (95, oIld 4 2), (97, oRetI)]
set_option maxRecDepth 20000 in
theorem ta_X9_swap : TabOk MIS T_X9_swap mi_X9_swap := ⟨by decide +kernel, fun l d ex hex p e R s m args below meth c cells slots ad D cI cZ A cx hR hA hr =>
  OkT.cons (ok_aload_n (kn := 0) rfl cx (by decide +kernel)) <|
  OkT.cons (ok_iconst (n := 0) cx (by decide +kernel) rfl) <|
  OkT.cons (ok_putI fp_RX9_69 (by decide) rfl cx (by decide +kernel)) <|
  OkT.cons (ok_aload_n (kn := 0) rfl cx (by decide +kernel)) <|
  OkT.cons (ok_iload_n (kn := 1) rfl cx (by decide +kernel)) <|
  OkT.cons (ok_callV hex rfl rfl (by decide) ca_RX9_182 hR hA cx (by decide +kernel)) <|
  OkT.cons (ok_If_eq (off := 11) (by decide) cx (by decide +kernel)) <|
  OkT.cons (ok_aload_n (kn := 0) rfl cx (by decide +kernel)) <|
  OkT.cons (ok_iload_n (kn := 2) rfl cx (by decide +kernel)) <|
  OkT.cons (ok_callV hex rfl rfl (by decide) ca_RX9_170 hR hA cx (by decide +kernel)) <|
  OkT.cons (ok_If_ne (off := 5) (by decide) cx (by decide +kernel)) <|
  OkT.cons (ok_fg [0, 1, 2, 3, 4] (ok_iconst (n := (-1)) cx (by decide +kernel) rfl)) <|
  OkT.cons (ok_retI hr (by decide +kernel)) <|
  OkT.cons (ok_fg [3, 4] (ok_aload_n (kn := 0) rfl cx (by decide +kernel))) <|
  OkT.cons (ok_getA (k := 19) fg_RX9_25 (by decide) rfl cx (by decide +kernel)) <|
  OkT.cons (ok_iload_n (kn := 2) rfl cx (by decide +kernel)) <|
  OkT.cons (ok_Iald cx (by decide +kernel)) <|
  OkT.cons (ok_iconst (n := 0) cx (by decide +kernel) rfl) <|
  OkT.cons (ok_callS hex rfl ca_RX9_179 hR hA cx (by decide +kernel)) <|
  OkT.cons (ok_istore_n (kn := 3) rfl cx (by decide +kernel)) <|
  OkT.cons (ok_aload_n (kn := 0) rfl cx (by decide +kernel)) <|
  OkT.cons (ok_getA (k := 19) fg_RX9_25 (by decide) rfl cx (by decide +kernel)) <|
  OkT.cons (ok_iload_n (kn := 2) rfl cx (by decide +kernel)) <|
  OkT.cons (ok_Iald cx (by decide +kernel)) <|
  OkT.cons (ok_iconst (n := 1) cx (by decide +kernel) rfl) <|
  OkT.cons (ok_callS hex rfl ca_RX9_179 hR hA cx (by decide +kernel)) <|
  OkT.cons (ok_istore cx (by decide +kernel)) <|
  OkT.cons (ok_iload cx (by decide +kernel)) <|
  OkT.cons (ok_bipush (n := (-9)) cx (by decide +kernel) rfl) <|
  OkT.cons (ok_Ic_eq (off := 22) (by decide) cx (by decide +kernel)) <|
  OkT.cons (ok_aload_n (kn := 0) rfl cx (by decide +kernel)) <|
  OkT.cons (ok_iload_n (kn := 1) rfl cx (by decide +kernel)) <|
  OkT.cons (ok_iload_n (kn := 3) rfl cx (by decide +kernel)) <|
  OkT.cons (ok_callV hex rfl rfl (by decide) ca_RX9_185 hR hA cx (by decide +kernel)) <|
  OkT.cons (ok_If_eq (off := 13) (by decide) cx (by decide +kernel)) <|
  OkT.cons (ok_aload_n (kn := 0) rfl cx (by decide +kernel)) <|
  OkT.cons (ok_iload_n (kn := 1) rfl cx (by decide +kernel)) <|
  OkT.cons (ok_iload cx (by decide +kernel)) <|
  OkT.cons (ok_callV hex rfl rfl (by decide) ca_RX9_185 hR hA cx (by decide +kernel)) <|
  OkT.cons (ok_If_ne (off := 6) (by decide) cx (by decide +kernel)) <|
  OkT.cons (ok_fg [0, 1, 2, 3, 4] (ok_bipush (n := (-2)) cx (by decide +kernel) rfl)) <|
  OkT.cons (ok_retI hr (by decide +kernel)) <|
  OkT.cons (ok_fg [1, 3] (ok_aload_n (kn := 0) rfl cx (by decide +kernel))) <|
  OkT.cons (ok_iload_n (kn := 2) rfl cx (by decide +kernel)) <|
  OkT.cons (ok_aload_n (kn := 0) rfl cx (by decide +kernel)) <|
  OkT.cons (ok_getA (k := 19) fg_RX9_25 (by decide) rfl cx (by decide +kernel)) <|
  OkT.cons (ok_iload_n (kn := 2) rfl cx (by decide +kernel)) <|
  OkT.cons (ok_Iald cx (by decide +kernel)) <|
  OkT.cons (ok_callS hex rfl ca_RX9_193 hR hA cx (by decide +kernel)) <|
  OkT.cons (ok_aload_n (kn := 0) rfl cx (by decide +kernel)) <|
  OkT.cons (ok_getA (k := 12) fg_RX9_22 (by decide) rfl cx (by decide +kernel)) <|
  OkT.cons (ok_iconst (n := 3) cx (by decide +kernel) rfl) <|
  OkT.cons (ok_Iald cx (by decide +kernel)) <|
  OkT.cons (ok_callV hex rfl rfl (by decide) ca_RX9_189 hR hA cx (by decide +kernel)) <|
  OkT.cons (ok_iload cx (by decide +kernel)) <|
  OkT.cons (ok_retI hr (by decide +kernel)) <|
  OkT.nil⟩
def T_X9_copy (ex : Ex) : Tb := [(0, oAld 0 1), (1, pS (fPush (.int 0)) 1), (2, oPutI 7 0), (5, oAld 0 1), (6, oIld 1 1), (7, oCallV ex 153 1 7), (10, oIf_eq 34), (13, oAld 0 1), (14, oIld 2 1), (15, oCallV ex 152 1 7), (18, oIf_eq 34), (21, oAld 0 1), (22, oIld 3 1), (23, oCallV ex 152 1 7), (26, oIf_eq 34), (29, oIld 2 1), (30, oIld 3 1), (31, oIc_ne 36), (34, oFg [0, 1, 2, 3, 4] (pS (fPush (.int (-1))) 1)), (35, oRetI), (36, oFg [4] (oAld 0 1)), (37, oGetA 7 6), (40, oIld 2 1), (41, oIald), (42, pS (fPush (.int 0)) 1), (43, oCallS ex 158 2), (46, oIst 4 2), (48, oIld 4 2), (50, pS (fPush (.int (-9))) 2), (52, oIc_eq 65), (55, oAld 0 1), (56, oIld 1 1), (57, oIld 4 2), (59, oCallV ex 161 2 7), (62, oIf_ne 68), (65, oFg [0, 1, 2, 3, 4] (pS (fPush (.int (-2))) 2)), (67, oRetI), (68, oFg [1, 2] (oAld 0 1)), (69, oGetA 7 6), (72, oIld 3 1), (73, oIald), (74, oCallS ex 155 1), (77, pS (fPush (.int 5)) 1), (78, oIc_ne 84), (81, pS (fPush (.int (-3))) 2), (83, oRetI), (84, oFg [1, 2] (oAld 0 1)), (85, oIld 3 1), (86, pS (fPush (.int 6)) 2), (88, oAld 0 1), (89, oGetA 7 6), (92, oIld 3 1), (93, oIald), (94, pS (fB (fun x y => x * y)) 1), (95, oIld 4 2), (97, pS (fB (fun x y => x + y)) 1), (98, pS (fPush (.int 1)) 1), (99, pS (fB (fun x y => x + y)) 1), (100, oAld 0 1), (101, oGetA 7 5), (104, pS (fPush (.int 4)) 1), (105, oIald), (106, oCallV ex 162 3 7), (109, oIld 4 2), (111, oRetI)]
set_option maxRecDepth 20000 in
theorem ta_X9_copy : TabOk MIS T_X9_copy mi_X9_copy := ⟨by decide +kernel, fun l d ex hex p e R s m args below meth c cells slots ad D cI cZ A cx hR hA hr =>
  OkT.cons (ok_aload_n (kn := 0) rfl cx (by decide +kernel)) <|
  OkT.cons (ok_iconst (n := 0) cx (by decide +kernel) rfl) <|
  OkT.cons (ok_putI fp_RX9_69 (by decide) rfl cx (by decide +kernel)) <|
  OkT.cons (ok_aload_n (kn := 0) rfl cx (by decide +kernel)) <|
  OkT.cons (ok_iload_n (kn := 1) rfl cx (by decide +kernel)) <|
  OkT.cons (ok_callV hex rfl rfl (by decide) ca_RX9_182 hR hA cx (by decide +kernel)) <|
  OkT.cons (ok_If_eq (off := 24) (by decide) cx (by decide +kernel)) <|
  OkT.cons (ok_aload_n (kn := 0) rfl cx (by decide +kernel)) <|
  OkT.cons (ok_iload_n (kn := 2) rfl cx (by decide +kernel)) <|
  OkT.cons (ok_callV hex rfl rfl (by decide) ca_RX9_170 hR hA cx (by decide +kernel)) <|
  OkT.cons (ok_If_eq (off := 16) (by decide) cx (by decide +kernel)) <|
  OkT.cons (ok_aload_n (kn := 0) rfl cx (by decide +kernel)) <|
  OkT.cons (ok_iload_n (kn := 3) rfl cx (by decide +kernel)) <|
  OkT.cons (ok_callV hex rfl rfl (by decide) ca_RX9_170 hR hA cx (by decide +kernel)) <|
  OkT.cons (ok_If_eq (off := 8) (by decide) cx (by decide +kernel)) <|
  OkT.cons (ok_iload_n (kn := 2) rfl cx (by decide +kernel)) <|
  OkT.cons (ok_iload_n (kn := 3) rfl cx (by decide +kernel)) <|
  OkT.cons (ok_Ic_ne (off := 5) (by decide) cx (by decide +kernel)) <|
  OkT.cons (ok_fg [0, 1, 2, 3, 4] (ok_iconst (n := (-1)) cx (by decide +kernel) rfl)) <|
  OkT.cons (ok_retI hr (by decide +kernel)) <|
  OkT.cons (ok_fg [4] (ok_aload_n (kn := 0) rfl cx (by decide +kernel))) <|
  OkT.cons (ok_getA (k := 19) fg_RX9_25 (by decide) rfl cx (by decide +kernel)) <|
  OkT.cons (ok_iload_n (kn := 2) rfl cx (by decide +kernel)) <|
  OkT.cons (ok_Iald cx (by decide +kernel)) <|
  OkT.cons (ok_iconst (n := 0) cx (by decide +kernel) rfl) <|
  OkT.cons (ok_callS hex rfl ca_RX9_179 hR hA cx (by decide +kernel)) <|
  OkT.cons (ok_istore cx (by decide +kernel)) <|
  OkT.cons (ok_iload cx (by decide +kernel)) <|
  OkT.cons (ok_bipush (n := (-9)) cx (by decide +kernel) rfl) <|
  OkT.cons (ok_Ic_eq (off := 13) (by decide) cx (by decide +kernel)) <|
  OkT.cons (ok_aload_n (kn := 0) rfl cx (by decide +kernel)) <|
  OkT.cons (ok_iload_n (kn := 1) rfl cx (by decide +kernel)) <|
  OkT.cons (ok_iload cx (by decide +kernel)) <|
  OkT.cons (ok_callV hex rfl rfl (by decide) ca_RX9_185 hR hA cx (by decide +kernel)) <|
  OkT.cons (ok_If_ne (off := 6) (by decide) cx (by decide +kernel)) <|
  OkT.cons (ok_fg [0, 1, 2, 3, 4] (ok_bipush (n := (-2)) cx (by decide +kernel) rfl)) <|
  OkT.cons (ok_retI hr (by decide +kernel)) <|
  OkT.cons (ok_fg [1, 2] (ok_aload_n (kn := 0) rfl cx (by decide +kernel))) <|
  OkT.cons (ok_getA (k := 19) fg_RX9_25 (by decide) rfl cx (by decide +kernel)) <|
  OkT.cons (ok_iload_n (kn := 3) rfl cx (by decide +kernel)) <|
  OkT.cons (ok_Iald cx (by decide +kernel)) <|
  OkT.cons (ok_callS hex rfl ca_RX9_173 hR hA cx (by decide +kernel)) <|
  OkT.cons (ok_iconst (n := 5) cx (by decide +kernel) rfl) <|
  OkT.cons (ok_Ic_ne (off := 6) (by decide) cx (by decide +kernel)) <|
  OkT.cons (ok_bipush (n := (-3)) cx (by decide +kernel) rfl) <|
  OkT.cons (ok_retI hr (by decide +kernel)) <|
  OkT.cons (ok_fg [1, 2] (ok_aload_n (kn := 0) rfl cx (by decide +kernel))) <|
  OkT.cons (ok_iload_n (kn := 3) rfl cx (by decide +kernel)) <|
  OkT.cons (ok_bipush (n := 6) cx (by decide +kernel) rfl) <|
  OkT.cons (ok_aload_n (kn := 0) rfl cx (by decide +kernel)) <|
  OkT.cons (ok_getA (k := 19) fg_RX9_25 (by decide) rfl cx (by decide +kernel)) <|
  OkT.cons (ok_iload_n (kn := 3) rfl cx (by decide +kernel)) <|
  OkT.cons (ok_Iald cx (by decide +kernel)) <|
  OkT.cons (ok_imul cx (by decide +kernel)) <|
  OkT.cons (ok_iload cx (by decide +kernel)) <|
  OkT.cons (ok_iadd cx (by decide +kernel)) <|
  OkT.cons (ok_iconst (n := 1) cx (by decide +kernel) rfl) <|
  OkT.cons (ok_iadd cx (by decide +kernel)) <|
  OkT.cons (ok_aload_n (kn := 0) rfl cx (by decide +kernel)) <|
  OkT.cons (ok_getA (k := 12) fg_RX9_22 (by decide) rfl cx (by decide +kernel)) <|
  OkT.cons (ok_iconst (n := 4) cx (by decide +kernel) rfl) <|
  OkT.cons (ok_Iald cx (by decide +kernel)) <|
  OkT.cons (ok_callV hex rfl rfl (by decide) ca_RX9_189 hR hA cx (by decide +kernel)) <|
  OkT.cons (ok_iload cx (by decide +kernel)) <|
  OkT.cons (ok_retI hr (by decide +kernel)) <|
  OkT.nil⟩
def T_X9_undo (ex : Ex) : Tb := [(0, oAld 0 1), (1, pS (fPush (.int 0)) 1), (2, oPutI 7 0), (5, oAld 0 1), (6, oGetI 7 23), (9, oIf_ne 15), (12, pS (fPush (.int (-2))) 2), (14, oRetI), (15, oFg [1] (oAld 0 1)), (16, pS fDup 1), (17, oGetI 7 23), (20, pS (fPush (.int 1)) 1), (21, pS (fB (fun x y => x - y)) 1), (22, oPutI 7 23), (25, pS (fPush (.int 3)) 1), (26, oAld 0 1), (27, oGetI 7 23), (30, pS (fB (fun x y => x * y)) 1), (31, oIst 1 1), (32, oAld 0 1), (33, oGetA 7 6), (36, oAld 0 1), (37, oGetA 7 9), (40, oIld 1 1), (41, oIald), (42, oAld 0 1), (43, oGetA 7 9), (46, oIld 1 1), (47, pS (fPush (.int 1)) 1), (48, pS (fB (fun x y => x + y)) 1), (49, oIald), (50, oIast), (51, oAld 0 1), (52, oGetA 7 6), (55, pS (fPush (.int 4)) 1), (56, oAld 0 1), (57, oGetA 7 9), (60, oIld 1 1), (61, pS (fPush (.int 2)) 1), (62, pS (fB (fun x y => x + y)) 1), (63, oIald), (64, oIast), (65, oAld 0 1), (66, oGetI 7 23), (69, oRetI)]
set_option maxRecDepth 20000 in
theorem ta_X9_undo : TabOk MIS T_X9_undo mi_X9_undo := ⟨by decide +kernel, fun l d ex hex p e R s m args below meth c cells slots ad D cI cZ A cx hR hA hr =>
  OkT.cons (ok_aload_n (kn := 0) rfl cx (by decide +kernel)) <|
  OkT.cons (ok_iconst (n := 0) cx (by decide +kernel) rfl) <|
  OkT.cons (ok_putI fp_RX9_69 (by decide) rfl cx (by decide +kernel)) <|
  OkT.cons (ok_aload_n (kn := 0) rfl cx (by decide +kernel)) <|
  OkT.cons (ok_getI fg_RX9_157 (by decide) rfl cx (by decide +kernel)) <|
  OkT.cons (ok_If_ne (off := 6) (by decide) cx (by decide +kernel)) <|
  OkT.cons (ok_bipush (n := (-2)) cx (by decide +kernel) rfl) <|
  OkT.cons (ok_retI hr (by decide +kernel)) <|
  OkT.cons (ok_fg [1] (ok_aload_n (kn := 0) rfl cx (by decide +kernel))) <|
  OkT.cons (ok_dup cx (by decide +kernel)) <|
  OkT.cons (ok_getI fg_RX9_157 (by decide) rfl cx (by decide +kernel)) <|
  OkT.cons (ok_iconst (n := 1) cx (by decide +kernel) rfl) <|
  OkT.cons (ok_isub cx (by decide +kernel)) <|
  OkT.cons (ok_putI fp_RX9_157 (by decide) rfl cx (by decide +kernel)) <|
  OkT.cons (ok_iconst (n := 3) cx (by decide +kernel) rfl) <|
  OkT.cons (ok_aload_n (kn := 0) rfl cx (by decide +kernel)) <|
  OkT.cons (ok_getI fg_RX9_157 (by decide) rfl cx (by decide +kernel)) <|
  OkT.cons (ok_imul cx (by decide +kernel)) <|
  OkT.cons (ok_istore_n (kn := 1) rfl cx (by decide +kernel)) <|
  OkT.cons (ok_aload_n (kn := 0) rfl cx (by decide +kernel)) <|
  OkT.cons (ok_getA (k := 19) fg_RX9_25 (by decide) rfl cx (by decide +kernel)) <|
  OkT.cons (ok_aload_n (kn := 0) rfl cx (by decide +kernel)) <|
  OkT.cons (ok_getA (k := 22) fg_RX9_35 (by decide) rfl cx (by decide +kernel)) <|
  OkT.cons (ok_iload_n (kn := 1) rfl cx (by decide +kernel)) <|
  OkT.cons (ok_Iald cx (by decide +kernel)) <|
  OkT.cons (ok_aload_n (kn := 0) rfl cx (by decide +kernel)) <|
  OkT.cons (ok_getA (k := 22) fg_RX9_35 (by decide) rfl cx (by decide +kernel)) <|
  OkT.cons (ok_iload_n (kn := 1) rfl cx (by decide +kernel)) <|
  OkT.cons (ok_iconst (n := 1) cx (by decide +kernel) rfl) <|
  OkT.cons (ok_iadd cx (by decide +kernel)) <|
  OkT.cons (ok_Iald cx (by decide +kernel)) <|
  OkT.cons (ok_Iast cx (by decide +kernel)) <|
  OkT.cons (ok_aload_n (kn := 0) rfl cx (by decide +kernel)) <|
  OkT.cons (ok_getA (k := 19) fg_RX9_25 (by decide) rfl cx (by decide +kernel)) <|
  OkT.cons (ok_iconst (n := 4) cx (by decide +kernel) rfl) <|
  OkT.cons (ok_aload_n (kn := 0) rfl cx (by decide +kernel)) <|
  OkT.cons (ok_getA (k := 22) fg_RX9_35 (by decide) rfl cx (by decide +kernel)) <|
  OkT.cons (ok_iload_n (kn := 1) rfl cx (by decide +kernel)) <|
  OkT.cons (ok_iconst (n := 2) cx (by decide +kernel) rfl) <|
  OkT.cons (ok_iadd cx (by decide +kernel)) <|
  OkT.cons (ok_Iald cx (by decide +kernel)) <|
  OkT.cons (ok_Iast cx (by decide +kernel)) <|
  OkT.cons (ok_aload_n (kn := 0) rfl cx (by decide +kernel)) <|
  OkT.cons (ok_getI fg_RX9_157 (by decide) rfl cx (by decide +kernel)) <|
  OkT.cons (ok_retI hr (by decide +kernel)) <|
  OkT.nil⟩
def T_X9_now (ex : Ex) : Tb := [(0, oAld 0 1), (1, pS (fPush (.int 0)) 1), (2, oPutI 7 0), (5, pS (fPush (.int 0)) 1), (6, oIst 2 1), (7, pS (fPush (.int 0)) 1), (8, oIst 3 1), (9, pS (fPush (.int 0)) 1), (10, oIst 4 2), (12, oFg [5] (oIld 4 2)), (14, oAld 0 1), (15, oGetI 7 14), (18, oIc_ge 66), (21, oAld 0 1), (22, oGetA 7 6), (25, oIld 4 2), (27, oIald), (28, oCallS ex 155 1), (31, oIst 5 2), (33, oIld 2 1), (34, oIld 5 2), (36, oAld 0 1), (37, oGetA 7 5), (40, pS (fPush (.int 5)) 1), (41, oIald), (42, oIc_lt 52), (45, pS (fPush (.int 1)) 1), (46, oIld 4 2), (48, pS (fB (fun x y => x <<< (y &&& 31))) 1), (49, oGoto 53), (52, oFg [2] (pS (fPush (.int 0)) 1)), (53, oFg [2] (pS (fB (fun x y => x ||| y)) 1)), (54, oIst 2 1), (55, oIld 3 1), (56, oIld 5 2), (58, pS (fB (fun x y => x + y)) 1), (59, oIst 3 1), (60, oInc 4 1), (63, oGoto 12), (66, oFg [4, 5] (oIld 1 1)), (67, oIf_ne 79), (70, oAld 0 1), (71, oGetA 7 6), (74, pS (fPush (.int 4)) 1), (75, oIald), (76, oGoto 110), (79, oFg [4, 5] (oIld 1 1)), (80, pS (fPush (.int 1)) 1), (81, oIc_ne 88), (84, oIld 2 1), (85, oGoto 110), (88, oFg [2, 4, 5] (oIld 1 1)), (89, pS (fPush (.int 2)) 1), (90, oIc_ne 97), (93, oIld 3 1), (94, oGoto 110), (97, oFg [2, 3, 4, 5] (oIld 1 1)), (98, pS (fPush (.int 3)) 1), (99, oIc_ne 109), (102, oAld 0 1), (103, oGetI 7 23), (106, oGoto 110), (109, oFg [0, 1, 2, 3, 4, 5] (pS (fPush (.int (-1))) 1)), (110, oFg [0, 1, 2, 3, 4, 5] (oRetI))]
set_option maxRecDepth 20000 in
theorem ta_X9_now : TabOk MIS T_X9_now mi_X9_now := ⟨by decide +kernel, fun l d ex hex p e R s m args below meth c cells slots ad D cI cZ A cx hR hA hr =>
  OkT.cons (ok_aload_n (kn := 0) rfl cx (by decide +kernel)) <|
  OkT.cons (ok_iconst (n := 0) cx (by decide +kernel) rfl) <|
  OkT.cons (ok_putI fp_RX9_69 (by decide) rfl cx (by decide +kernel)) <|
  OkT.cons (ok_iconst (n := 0) cx (by decide +kernel) rfl) <|
  OkT.cons (ok_istore_n (kn := 2) rfl cx (by decide +kernel)) <|
  OkT.cons (ok_iconst (n := 0) cx (by decide +kernel) rfl) <|
  OkT.cons (ok_istore_n (kn := 3) rfl cx (by decide +kernel)) <|
  OkT.cons (ok_iconst (n := 0) cx (by decide +kernel) rfl) <|
  OkT.cons (ok_istore cx (by decide +kernel)) <|
  OkT.cons (ok_fg [5] (ok_iload cx (by decide +kernel))) <|
  OkT.cons (ok_aload_n (kn := 0) rfl cx (by decide +kernel)) <|
  OkT.cons (ok_getI fg_RX9_151 (by decide) rfl cx (by decide +kernel)) <|
  OkT.cons (ok_Ic_ge (off := 48) (by decide) cx (by decide +kernel)) <|
  OkT.cons (ok_aload_n (kn := 0) rfl cx (by decide +kernel)) <|
  OkT.cons (ok_getA (k := 19) fg_RX9_25 (by decide) rfl cx (by decide +kernel)) <|
  OkT.cons (ok_iload cx (by decide +kernel)) <|
  OkT.cons (ok_Iald cx (by decide +kernel)) <|
  OkT.cons (ok_callS hex rfl ca_RX9_173 hR hA cx (by decide +kernel)) <|
  OkT.cons (ok_istore cx (by decide +kernel)) <|
  OkT.cons (ok_iload_n (kn := 2) rfl cx (by decide +kernel)) <|
  OkT.cons (ok_iload cx (by decide +kernel)) <|
  OkT.cons (ok_aload_n (kn := 0) rfl cx (by decide +kernel)) <|
  OkT.cons (ok_getA (k := 12) fg_RX9_22 (by decide) rfl cx (by decide +kernel)) <|
  OkT.cons (ok_iconst (n := 5) cx (by decide +kernel) rfl) <|
  OkT.cons (ok_Iald cx (by decide +kernel)) <|
  OkT.cons (ok_Ic_lt (off := 10) (by decide) cx (by decide +kernel)) <|
  OkT.cons (ok_iconst (n := 1) cx (by decide +kernel) rfl) <|
  OkT.cons (ok_iload cx (by decide +kernel)) <|
  OkT.cons (ok_ishl cx (by decide +kernel)) <|
  OkT.cons (ok_goto (off := 4) (by decide) cx (by decide +kernel)) <|
  OkT.cons (ok_fg [2] (ok_iconst (n := 0) cx (by decide +kernel) rfl)) <|
  OkT.cons (ok_fg [2] (ok_ior cx (by decide +kernel))) <|
  OkT.cons (ok_istore_n (kn := 2) rfl cx (by decide +kernel)) <|
  OkT.cons (ok_iload_n (kn := 3) rfl cx (by decide +kernel)) <|
  OkT.cons (ok_iload cx (by decide +kernel)) <|
  OkT.cons (ok_iadd cx (by decide +kernel)) <|
  OkT.cons (ok_istore_n (kn := 3) rfl cx (by decide +kernel)) <|
  OkT.cons (ok_iinc (n := 1) rfl cx (by decide +kernel)) <|
  OkT.cons (ok_goto (off := (-51)) (by decide) cx (by decide +kernel)) <|
  OkT.cons (ok_fg [4, 5] (ok_iload_n (kn := 1) rfl cx (by decide +kernel))) <|
  OkT.cons (ok_If_ne (off := 12) (by decide) cx (by decide +kernel)) <|
  OkT.cons (ok_aload_n (kn := 0) rfl cx (by decide +kernel)) <|
  OkT.cons (ok_getA (k := 19) fg_RX9_25 (by decide) rfl cx (by decide +kernel)) <|
  OkT.cons (ok_iconst (n := 4) cx (by decide +kernel) rfl) <|
  OkT.cons (ok_Iald cx (by decide +kernel)) <|
  OkT.cons (ok_goto (off := 34) (by decide) cx (by decide +kernel)) <|
  OkT.cons (ok_fg [4, 5] (ok_iload_n (kn := 1) rfl cx (by decide +kernel))) <|
  OkT.cons (ok_iconst (n := 1) cx (by decide +kernel) rfl) <|
  OkT.cons (ok_Ic_ne (off := 7) (by decide) cx (by decide +kernel)) <|
  OkT.cons (ok_iload_n (kn := 2) rfl cx (by decide +kernel)) <|
  OkT.cons (ok_goto (off := 25) (by decide) cx (by decide +kernel)) <|
  OkT.cons (ok_fg [2, 4, 5] (ok_iload_n (kn := 1) rfl cx (by decide +kernel))) <|
  OkT.cons (ok_iconst (n := 2) cx (by decide +kernel) rfl) <|
  OkT.cons (ok_Ic_ne (off := 7) (by decide) cx (by decide +kernel)) <|
  OkT.cons (ok_iload_n (kn := 3) rfl cx (by decide +kernel)) <|
  OkT.cons (ok_goto (off := 16) (by decide) cx (by decide +kernel)) <|
  OkT.cons (ok_fg [2, 3, 4, 5] (ok_iload_n (kn := 1) rfl cx (by decide +kernel))) <|
  OkT.cons (ok_iconst (n := 3) cx (by decide +kernel) rfl) <|
  OkT.cons (ok_Ic_ne (off := 10) (by decide) cx (by decide +kernel)) <|
  OkT.cons (ok_aload_n (kn := 0) rfl cx (by decide +kernel)) <|
  OkT.cons (ok_getI fg_RX9_157 (by decide) rfl cx (by decide +kernel)) <|
  OkT.cons (ok_goto (off := 4) (by decide) cx (by decide +kernel)) <|
  OkT.cons (ok_fg [0, 1, 2, 3, 4, 5] (ok_iconst (n := (-1)) cx (by decide +kernel) rfl)) <|
  OkT.cons (ok_fg [0, 1, 2, 3, 4, 5] (ok_retI hr (by decide +kernel))) <|
  OkT.nil⟩
def T_X9_canSay (ex : Ex) : Tb := [(0, oIld 1 1), (1, oAld 0 1), (2, oGetI 7 30), (5, oIc_eq 113), (8, pS (fPush (.int 0)) 1), (9, oIst 4 2), (11, oFg [5] (oIld 4 2)), (13, pS (fPush (.int 25)) 2), (15, oIc_ge 108), (18, oAld 0 1), (19, oGetA 7 14), (22, oIld 4 2), (24, pS (fPush (.int 0)) 1), (25, oZast), (26, pS (fPush (.int 0)) 1), (27, oIst 5 2), (29, oIld 5 2), (31, oAld 0 1), (32, oGetI 7 15), (35, oIc_ge 102), (38, oAld 0 1), (39, oGetA 7 14), (42, oIld 4 2), (44, oAld 0 1), (45, oGetA 7 14), (48, oIld 4 2), (50, oZald), (51, oIf_ne 90), (54, oIld 1 1), (55, oIld 5 2), (57, pS (fB (fun x y => x >>> (y &&& 31))) 1), (58, pS (fPush (.int 1)) 1), (59, pS (fB (fun x y => x &&& y)) 1), (60, pS (fPush (.int 1)) 1), (61, oIc_ne 94), (64, oAld 0 1), (65, oIld 5 2), (67, oIld 4 2), (69, pS (fPush (.int 5)) 1), (70, pS (fDv (fun x y => x / y)) 1), (71, oCallV ex 161 2 7), (74, oIf_eq 94), (77, oAld 0 1), (78, oIld 5 2), (80, oIld 4 2), (82, pS (fPush (.int 5)) 1), (83, pS (fDv (fun x y => x - x / y * y)) 1), (84, oCallV ex 161 2 7), (87, oIf_eq 94), (90, pS (fPush (.int 1)) 1), (91, oGoto 95), (94, pS (fPush (.int 0)) 1), (95, oZast), (96, oInc 5 1), (99, oGoto 29), (102, oFg [5] (oInc 4 1)), (105, oGoto 11), (108, oFg [4, 5] (oAld 0 1)), (109, oIld 1 1), (110, oPutI 7 30), (113, oFg [1, 4, 5] (oAld 0 1)), (114, oGetA 7 14), (117, pS (fPush (.int 5)) 1), (118, oIld 2 1), (119, pS (fB (fun x y => x * y)) 1), (120, oIld 3 1), (121, pS (fB (fun x y => x + y)) 1), (122, oZald), (123, oRetZ)]
set_option maxRecDepth 20000 in
theorem ta_X9_canSay : TabOk MIS T_X9_canSay mi_X9_canSay := ⟨by decide +kernel, fun l d ex hex p e R s m args below meth c cells slots ad D cI cZ A cx hR hA hr =>
  OkT.cons (ok_iload_n (kn := 1) rfl cx (by decide +kernel)) <|
  OkT.cons (ok_aload_n (kn := 0) rfl cx (by decide +kernel)) <|
  OkT.cons (ok_getI fg_RX9_53 (by decide) rfl cx (by decide +kernel)) <|
  OkT.cons (ok_Ic_eq (off := 108) (by decide) cx (by decide +kernel)) <|
  OkT.cons (ok_iconst (n := 0) cx (by decide +kernel) rfl) <|
  OkT.cons (ok_istore cx (by decide +kernel)) <|
  OkT.cons (ok_fg [5] (ok_iload cx (by decide +kernel))) <|
  OkT.cons (ok_bipush (n := 25) cx (by decide +kernel) rfl) <|
  OkT.cons (ok_Ic_ge (off := 93) (by decide) cx (by decide +kernel)) <|
  OkT.cons (ok_aload_n (kn := 0) rfl cx (by decide +kernel)) <|
  OkT.cons (ok_getA (k := 29) fg_RX9_50 (by decide) rfl cx (by decide +kernel)) <|
  OkT.cons (ok_iload cx (by decide +kernel)) <|
  OkT.cons (ok_iconst (n := 0) cx (by decide +kernel) rfl) <|
  OkT.cons (ok_Zast cx (by decide +kernel)) <|
  OkT.cons (ok_iconst (n := 0) cx (by decide +kernel) rfl) <|
  OkT.cons (ok_istore cx (by decide +kernel)) <|
  OkT.cons (ok_iload cx (by decide +kernel)) <|
  OkT.cons (ok_aload_n (kn := 0) rfl cx (by decide +kernel)) <|
  OkT.cons (ok_getI fg_RX9_154 (by decide) rfl cx (by decide +kernel)) <|
  OkT.cons (ok_Ic_ge (off := 67) (by decide) cx (by decide +kernel)) <|
  OkT.cons (ok_aload_n (kn := 0) rfl cx (by decide +kernel)) <|
  OkT.cons (ok_getA (k := 29) fg_RX9_50 (by decide) rfl cx (by decide +kernel)) <|
  OkT.cons (ok_iload cx (by decide +kernel)) <|
  OkT.cons (ok_aload_n (kn := 0) rfl cx (by decide +kernel)) <|
  OkT.cons (ok_getA (k := 29) fg_RX9_50 (by decide) rfl cx (by decide +kernel)) <|
  OkT.cons (ok_iload cx (by decide +kernel)) <|
  OkT.cons (ok_Zald cx (by decide +kernel)) <|
  OkT.cons (ok_If_ne (off := 39) (by decide) cx (by decide +kernel)) <|
  OkT.cons (ok_iload_n (kn := 1) rfl cx (by decide +kernel)) <|
  OkT.cons (ok_iload cx (by decide +kernel)) <|
  OkT.cons (ok_ishr cx (by decide +kernel)) <|
  OkT.cons (ok_iconst (n := 1) cx (by decide +kernel) rfl) <|
  OkT.cons (ok_iand cx (by decide +kernel)) <|
  OkT.cons (ok_iconst (n := 1) cx (by decide +kernel) rfl) <|
  OkT.cons (ok_Ic_ne (off := 33) (by decide) cx (by decide +kernel)) <|
  OkT.cons (ok_aload_n (kn := 0) rfl cx (by decide +kernel)) <|
  OkT.cons (ok_iload cx (by decide +kernel)) <|
  OkT.cons (ok_iload cx (by decide +kernel)) <|
  OkT.cons (ok_iconst (n := 5) cx (by decide +kernel) rfl) <|
  OkT.cons (ok_idiv cx (by decide +kernel)) <|
  OkT.cons (ok_callV hex rfl rfl (by decide) ca_RX9_185 hR hA cx (by decide +kernel)) <|
  OkT.cons (ok_If_eq (off := 20) (by decide) cx (by decide +kernel)) <|
  OkT.cons (ok_aload_n (kn := 0) rfl cx (by decide +kernel)) <|
  OkT.cons (ok_iload cx (by decide +kernel)) <|
  OkT.cons (ok_iload cx (by decide +kernel)) <|
  OkT.cons (ok_iconst (n := 5) cx (by decide +kernel) rfl) <|
  OkT.cons (ok_irem cx (by decide +kernel)) <|
  OkT.cons (ok_callV hex rfl rfl (by decide) ca_RX9_185 hR hA cx (by decide +kernel)) <|
  OkT.cons (ok_If_eq (off := 7) (by decide) cx (by decide +kernel)) <|
  OkT.cons (ok_iconst (n := 1) cx (by decide +kernel) rfl) <|
  OkT.cons (ok_goto (off := 4) (by decide) cx (by decide +kernel)) <|
  OkT.cons (ok_iconst (n := 0) cx (by decide +kernel) rfl) <|
  OkT.cons (ok_Zast cx (by decide +kernel)) <|
  OkT.cons (ok_iinc (n := 1) rfl cx (by decide +kernel)) <|
  OkT.cons (ok_goto (off := (-70)) (by decide) cx (by decide +kernel)) <|
  OkT.cons (ok_fg [5] (ok_iinc (n := 1) rfl cx (by decide +kernel))) <|
  OkT.cons (ok_goto (off := (-94)) (by decide) cx (by decide +kernel)) <|
  OkT.cons (ok_fg [4, 5] (ok_aload_n (kn := 0) rfl cx (by decide +kernel))) <|
  OkT.cons (ok_iload_n (kn := 1) rfl cx (by decide +kernel)) <|
  OkT.cons (ok_putI fp_RX9_53 (by decide) rfl cx (by decide +kernel)) <|
  OkT.cons (ok_fg [1, 4, 5] (ok_aload_n (kn := 0) rfl cx (by decide +kernel))) <|
  OkT.cons (ok_getA (k := 29) fg_RX9_50 (by decide) rfl cx (by decide +kernel)) <|
  OkT.cons (ok_iconst (n := 5) cx (by decide +kernel) rfl) <|
  OkT.cons (ok_iload_n (kn := 2) rfl cx (by decide +kernel)) <|
  OkT.cons (ok_imul cx (by decide +kernel)) <|
  OkT.cons (ok_iload_n (kn := 3) rfl cx (by decide +kernel)) <|
  OkT.cons (ok_iadd cx (by decide +kernel)) <|
  OkT.cons (ok_Zald cx (by decide +kernel)) <|
  OkT.cons (ok_retZ hr (by decide +kernel)) <|
  OkT.nil⟩
def T_X9_said (ex : Ex) : Tb := [(0, oIld 1 1), (1, pS (fPush (.int 0)) 1), (2, oCallS ex 158 2), (5, oIst 4 2), (7, oIld 2 1), (8, pS (fPush (.int 5)) 1), (9, oIc_ge 51), (12, oIld 2 1), (13, oAld 0 1), (14, oGetI 7 13), (17, oIc_ge 48), (20, oIld 1 1), (21, pS (fPush (.int 1296)) 3), (24, oIc_ge 48), (27, oAld 0 1), (28, oIld 3 1), (29, oIld 2 1), (30, oIld 2 1), (31, oCallV ex 170 3 7), (34, oIf_eq 48), (37, pS (fPush (.int 6)) 2), (39, oIld 1 1), (40, pS (fB (fun x y => x * y)) 1), (41, oIld 2 1), (42, pS (fB (fun x y => x + y)) 1), (43, pS (fPush (.int 1)) 1), (44, pS (fB (fun x y => x + y)) 1), (45, oGoto 50), (48, oFg [0, 1, 2, 3, 4, 5] (pS (fPush (.int (-9))) 2)), (50, oFg [0, 1, 2, 3, 4, 5] (oRetI)), (51, oFg [5] (oIld 4 2)), (53, pS (fPush (.int (-9))) 2), (55, oIc_ne 61), (58, pS (fPush (.int (-9))) 2), (60, oRetI), (61, oFg [5] (oIld 2 1)), (62, pS (fPush (.int 5)) 1), (63, oIc_ne 88), (66, oAld 0 1), (67, oIld 3 1), (68, oIld 4 2), (70, oIld 4 2), (72, oCallV ex 170 3 7), (75, oIf_eq 85), (78, oIld 1 1), (79, pS (fPush (.int 6)) 2), (81, pS (fDv (fun x y => x / y)) 1), (82, oGoto 87), (85, oFg [0, 1, 2, 3, 4, 5] (pS (fPush (.int (-9))) 2)), (87, oFg [0, 1, 2, 3, 4, 5] (oRetI)), (88, oFg [2, 5] (oIld 1 1)), (89, pS (fPush (.int 1)) 1), (90, oCallS ex 158 2), (93, oIst 5 2), (95, oIld 5 2), (97, pS (fPush (.int (-9))) 2), (99, oIc_eq 121), (102, oAld 0 1), (103, oIld 3 1), (104, oIld 4 2), (106, oIld 5 2), (108, oCallV ex 170 3 7), (111, oIf_eq 121), (114, oIld 1 1), (115, oCallS ex 165 1), (118, oGoto 123), (121, oFg [0, 1, 2, 3, 4, 5] (pS (fPush (.int (-9))) 2)), (123, oFg [0, 1, 2, 3, 4, 5] (oRetI))]
set_option maxRecDepth 20000 in
theorem ta_X9_said : TabOk MIS T_X9_said mi_X9_said := ⟨by decide +kernel, fun l d ex hex p e R s m args below meth c cells slots ad D cI cZ A cx hR hA hr =>
  OkT.cons (ok_iload_n (kn := 1) rfl cx (by decide +kernel)) <|
  OkT.cons (ok_iconst (n := 0) cx (by decide +kernel) rfl) <|
  OkT.cons (ok_callS hex rfl ca_RX9_179 hR hA cx (by decide +kernel)) <|
  OkT.cons (ok_istore cx (by decide +kernel)) <|
  OkT.cons (ok_iload_n (kn := 2) rfl cx (by decide +kernel)) <|
  OkT.cons (ok_iconst (n := 5) cx (by decide +kernel) rfl) <|
  OkT.cons (ok_Ic_ge (off := 42) (by decide) cx (by decide +kernel)) <|
  OkT.cons (ok_iload_n (kn := 2) rfl cx (by decide +kernel)) <|
  OkT.cons (ok_aload_n (kn := 0) rfl cx (by decide +kernel)) <|
  OkT.cons (ok_getI fg_RX9_148 (by decide) rfl cx (by decide +kernel)) <|
  OkT.cons (ok_Ic_ge (off := 31) (by decide) cx (by decide +kernel)) <|
  OkT.cons (ok_iload_n (kn := 1) rfl cx (by decide +kernel)) <|
  OkT.cons (ok_sipush (n := 1296) cx (by decide +kernel) rfl) <|
  OkT.cons (ok_Ic_ge (off := 24) (by decide) cx (by decide +kernel)) <|
  OkT.cons (ok_aload_n (kn := 0) rfl cx (by decide +kernel)) <|
  OkT.cons (ok_iload_n (kn := 3) rfl cx (by decide +kernel)) <|
  OkT.cons (ok_iload_n (kn := 2) rfl cx (by decide +kernel)) <|
  OkT.cons (ok_iload_n (kn := 2) rfl cx (by decide +kernel)) <|
  OkT.cons (ok_callV hex rfl rfl (by decide) ca_RX9_196 hR hA cx (by decide +kernel)) <|
  OkT.cons (ok_If_eq (off := 14) (by decide) cx (by decide +kernel)) <|
  OkT.cons (ok_bipush (n := 6) cx (by decide +kernel) rfl) <|
  OkT.cons (ok_iload_n (kn := 1) rfl cx (by decide +kernel)) <|
  OkT.cons (ok_imul cx (by decide +kernel)) <|
  OkT.cons (ok_iload_n (kn := 2) rfl cx (by decide +kernel)) <|
  OkT.cons (ok_iadd cx (by decide +kernel)) <|
  OkT.cons (ok_iconst (n := 1) cx (by decide +kernel) rfl) <|
  OkT.cons (ok_iadd cx (by decide +kernel)) <|
  OkT.cons (ok_goto (off := 5) (by decide) cx (by decide +kernel)) <|
  OkT.cons (ok_fg [0, 1, 2, 3, 4, 5] (ok_bipush (n := (-9)) cx (by decide +kernel) rfl)) <|
  OkT.cons (ok_fg [0, 1, 2, 3, 4, 5] (ok_retI hr (by decide +kernel))) <|
  OkT.cons (ok_fg [5] (ok_iload cx (by decide +kernel))) <|
  OkT.cons (ok_bipush (n := (-9)) cx (by decide +kernel) rfl) <|
  OkT.cons (ok_Ic_ne (off := 6) (by decide) cx (by decide +kernel)) <|
  OkT.cons (ok_bipush (n := (-9)) cx (by decide +kernel) rfl) <|
  OkT.cons (ok_retI hr (by decide +kernel)) <|
  OkT.cons (ok_fg [5] (ok_iload_n (kn := 2) rfl cx (by decide +kernel))) <|
  OkT.cons (ok_iconst (n := 5) cx (by decide +kernel) rfl) <|
  OkT.cons (ok_Ic_ne (off := 25) (by decide) cx (by decide +kernel)) <|
  OkT.cons (ok_aload_n (kn := 0) rfl cx (by decide +kernel)) <|
  OkT.cons (ok_iload_n (kn := 3) rfl cx (by decide +kernel)) <|
  OkT.cons (ok_iload cx (by decide +kernel)) <|
  OkT.cons (ok_iload cx (by decide +kernel)) <|
  OkT.cons (ok_callV hex rfl rfl (by decide) ca_RX9_196 hR hA cx (by decide +kernel)) <|
  OkT.cons (ok_If_eq (off := 10) (by decide) cx (by decide +kernel)) <|
  OkT.cons (ok_iload_n (kn := 1) rfl cx (by decide +kernel)) <|
  OkT.cons (ok_bipush (n := 6) cx (by decide +kernel) rfl) <|
  OkT.cons (ok_idiv cx (by decide +kernel)) <|
  OkT.cons (ok_goto (off := 5) (by decide) cx (by decide +kernel)) <|
  OkT.cons (ok_fg [0, 1, 2, 3, 4, 5] (ok_bipush (n := (-9)) cx (by decide +kernel) rfl)) <|
  OkT.cons (ok_fg [0, 1, 2, 3, 4, 5] (ok_retI hr (by decide +kernel))) <|
  OkT.cons (ok_fg [2, 5] (ok_iload_n (kn := 1) rfl cx (by decide +kernel))) <|
  OkT.cons (ok_iconst (n := 1) cx (by decide +kernel) rfl) <|
  OkT.cons (ok_callS hex rfl ca_RX9_179 hR hA cx (by decide +kernel)) <|
  OkT.cons (ok_istore cx (by decide +kernel)) <|
  OkT.cons (ok_iload cx (by decide +kernel)) <|
  OkT.cons (ok_bipush (n := (-9)) cx (by decide +kernel) rfl) <|
  OkT.cons (ok_Ic_eq (off := 22) (by decide) cx (by decide +kernel)) <|
  OkT.cons (ok_aload_n (kn := 0) rfl cx (by decide +kernel)) <|
  OkT.cons (ok_iload_n (kn := 3) rfl cx (by decide +kernel)) <|
  OkT.cons (ok_iload cx (by decide +kernel)) <|
  OkT.cons (ok_iload cx (by decide +kernel)) <|
  OkT.cons (ok_callV hex rfl rfl (by decide) ca_RX9_196 hR hA cx (by decide +kernel)) <|
  OkT.cons (ok_If_eq (off := 10) (by decide) cx (by decide +kernel)) <|
  OkT.cons (ok_iload_n (kn := 1) rfl cx (by decide +kernel)) <|
  OkT.cons (ok_callS hex rfl ca_RX9_193 hR hA cx (by decide +kernel)) <|
  OkT.cons (ok_goto (off := 5) (by decide) cx (by decide +kernel)) <|
  OkT.cons (ok_fg [0, 1, 2, 3, 4, 5] (ok_bipush (n := (-9)) cx (by decide +kernel) rfl)) <|
  OkT.cons (ok_fg [0, 1, 2, 3, 4, 5] (ok_retI hr (by decide +kernel))) <|
  OkT.nil⟩
def T_X9_costOf (ex : Ex) : Tb := [(0, oIld 2 1), (1, pS (fPush (.int 5)) 1), (2, oIc_ge 18), (5, oAld 0 1), (6, oGetA 7 2), (9, pS (fPush (.int 4)) 1), (10, oIld 2 1), (11, pS (fB (fun x y => x * y)) 1), (12, pS (fPush (.int 2)) 1), (13, pS (fB (fun x y => x + y)) 1), (14, oIald), (15, oGoto 46), (18, oFg [3] (oIld 2 1)), (19, pS (fPush (.int 5)) 1), (20, oIc_ne 40), (23, oAld 0 1), (24, oGetA 7 2), (27, pS (fPush (.int 4)) 1), (28, oIld 1 1), (29, pS (fPush (.int 0)) 1), (30, oCallS ex 158 2), (33, pS (fB (fun x y => x * y)) 1), (34, pS (fPush (.int 3)) 1), (35, pS (fB (fun x y => x + y)) 1), (36, oIald), (37, oGoto 46), (40, oFg [1, 2, 3] (oAld 0 1)), (41, oGetA 7 5), (44, pS (fPush (.int 3)) 1), (45, oIald), (46, oFg [0, 1, 2, 3] (oIst 3 1)), (47, pS (fPush (.int 1000)) 3), (50, oIld 3 1), (51, pS (fB (fun x y => x * y)) 1), (52, pS (fPush (.int 1)) 1), (53, pS (fB (fun x y => x + y)) 1), (54, oRetI)]
set_option maxRecDepth 20000 in
theorem ta_X9_costOf : TabOk MIS T_X9_costOf mi_X9_costOf := ⟨by decide +kernel, fun l d ex hex p e R s m args below meth c cells slots ad D cI cZ A cx hR hA hr =>
  OkT.cons (ok_iload_n (kn := 2) rfl cx (by decide +kernel)) <|
  OkT.cons (ok_iconst (n := 5) cx (by decide +kernel) rfl) <|
  OkT.cons (ok_Ic_ge (off := 16) (by decide) cx (by decide +kernel)) <|
  OkT.cons (ok_aload_n (kn := 0) rfl cx (by decide +kernel)) <|
  OkT.cons (ok_getA (k := 9) fg_RX9_13 (by decide) rfl cx (by decide +kernel)) <|
  OkT.cons (ok_iconst (n := 4) cx (by decide +kernel) rfl) <|
  OkT.cons (ok_iload_n (kn := 2) rfl cx (by decide +kernel)) <|
  OkT.cons (ok_imul cx (by decide +kernel)) <|
  OkT.cons (ok_iconst (n := 2) cx (by decide +kernel) rfl) <|
  OkT.cons (ok_iadd cx (by decide +kernel)) <|
  OkT.cons (ok_Iald cx (by decide +kernel)) <|
  OkT.cons (ok_goto (off := 31) (by decide) cx (by decide +kernel)) <|
  OkT.cons (ok_fg [3] (ok_iload_n (kn := 2) rfl cx (by decide +kernel))) <|
  OkT.cons (ok_iconst (n := 5) cx (by decide +kernel) rfl) <|
  OkT.cons (ok_Ic_ne (off := 20) (by decide) cx (by decide +kernel)) <|
  OkT.cons (ok_aload_n (kn := 0) rfl cx (by decide +kernel)) <|
  OkT.cons (ok_getA (k := 9) fg_RX9_13 (by decide) rfl cx (by decide +kernel)) <|
  OkT.cons (ok_iconst (n := 4) cx (by decide +kernel) rfl) <|
  OkT.cons (ok_iload_n (kn := 1) rfl cx (by decide +kernel)) <|
  OkT.cons (ok_iconst (n := 0) cx (by decide +kernel) rfl) <|
  OkT.cons (ok_callS hex rfl ca_RX9_179 hR hA cx (by decide +kernel)) <|
  OkT.cons (ok_imul cx (by decide +kernel)) <|
  OkT.cons (ok_iconst (n := 3) cx (by decide +kernel) rfl) <|
  OkT.cons (ok_iadd cx (by decide +kernel)) <|
  OkT.cons (ok_Iald cx (by decide +kernel)) <|
  OkT.cons (ok_goto (off := 9) (by decide) cx (by decide +kernel)) <|
  OkT.cons (ok_fg [1, 2, 3] (ok_aload_n (kn := 0) rfl cx (by decide +kernel))) <|
  OkT.cons (ok_getA (k := 12) fg_RX9_22 (by decide) rfl cx (by decide +kernel)) <|
  OkT.cons (ok_iconst (n := 3) cx (by decide +kernel) rfl) <|
  OkT.cons (ok_Iald cx (by decide +kernel)) <|
  OkT.cons (ok_fg [0, 1, 2, 3] (ok_istore_n (kn := 3) rfl cx (by decide +kernel))) <|
  OkT.cons (ok_sipush (n := 1000) cx (by decide +kernel) rfl) <|
  OkT.cons (ok_iload_n (kn := 3) rfl cx (by decide +kernel)) <|
  OkT.cons (ok_imul cx (by decide +kernel)) <|
  OkT.cons (ok_iconst (n := 1) cx (by decide +kernel) rfl) <|
  OkT.cons (ok_iadd cx (by decide +kernel)) <|
  OkT.cons (ok_retI hr (by decide +kernel)) <|
  OkT.nil⟩
def T_X9_isRow (ex : Ex) : Tb := [(0, pS (fPush (.int 1)) 1), (1, oIst 2 1), (2, oIld 1 1), (3, oIst 3 1), (4, oFg [1] (oIld 3 1)), (5, oIf_le 41), (8, oIld 2 1), (9, oIf_eq 31), (12, oIld 3 1), (13, pS (fPush (.int 6)) 2), (15, pS (fDv (fun x y => x - x / y * y)) 1), (16, pS (fPush (.int 1)) 1), (17, oAld 0 1), (18, oGetI 7 13), (21, oCallS ex 135 3), (24, oIf_eq 31), (27, pS (fPush (.int 1)) 1), (28, oGoto 32), (31, oFg [1, 2] (pS (fPush (.int 0)) 1)), (32, oFg [1, 2] (oIst 2 1)), (33, oIld 3 1), (34, pS (fPush (.int 6)) 2), (36, pS (fDv (fun x y => x / y)) 1), (37, oIst 3 1), (38, oGoto 4), (41, oFg [0, 1, 3] (oIld 2 1)), (42, oRetZ)]
set_option maxRecDepth 20000 in
theorem ta_X9_isRow : TabOk MIS T_X9_isRow mi_X9_isRow := ⟨by decide +kernel, fun l d ex hex p e R s m args below meth c cells slots ad D cI cZ A cx hR hA hr =>
  OkT.cons (ok_iconst (n := 1) cx (by decide +kernel) rfl) <|
  OkT.cons (ok_istore_n (kn := 2) rfl cx (by decide +kernel)) <|
  OkT.cons (ok_iload_n (kn := 1) rfl cx (by decide +kernel)) <|
  OkT.cons (ok_istore_n (kn := 3) rfl cx (by decide +kernel)) <|
  OkT.cons (ok_fg [1] (ok_iload_n (kn := 3) rfl cx (by decide +kernel))) <|
  OkT.cons (ok_If_le (off := 36) (by decide) cx (by decide +kernel)) <|
  OkT.cons (ok_iload_n (kn := 2) rfl cx (by decide +kernel)) <|
  OkT.cons (ok_If_eq (off := 22) (by decide) cx (by decide +kernel)) <|
  OkT.cons (ok_iload_n (kn := 3) rfl cx (by decide +kernel)) <|
  OkT.cons (ok_bipush (n := 6) cx (by decide +kernel) rfl) <|
  OkT.cons (ok_irem cx (by decide +kernel)) <|
  OkT.cons (ok_iconst (n := 1) cx (by decide +kernel) rfl) <|
  OkT.cons (ok_aload_n (kn := 0) rfl cx (by decide +kernel)) <|
  OkT.cons (ok_getI fg_RX9_148 (by decide) rfl cx (by decide +kernel)) <|
  OkT.cons (ok_callS hex rfl ca_RX9_72 hR hA cx (by decide +kernel)) <|
  OkT.cons (ok_If_eq (off := 7) (by decide) cx (by decide +kernel)) <|
  OkT.cons (ok_iconst (n := 1) cx (by decide +kernel) rfl) <|
  OkT.cons (ok_goto (off := 4) (by decide) cx (by decide +kernel)) <|
  OkT.cons (ok_fg [1, 2] (ok_iconst (n := 0) cx (by decide +kernel) rfl)) <|
  OkT.cons (ok_fg [1, 2] (ok_istore_n (kn := 2) rfl cx (by decide +kernel))) <|
  OkT.cons (ok_iload_n (kn := 3) rfl cx (by decide +kernel)) <|
  OkT.cons (ok_bipush (n := 6) cx (by decide +kernel) rfl) <|
  OkT.cons (ok_idiv cx (by decide +kernel)) <|
  OkT.cons (ok_istore_n (kn := 3) rfl cx (by decide +kernel)) <|
  OkT.cons (ok_goto (off := (-34)) (by decide) cx (by decide +kernel)) <|
  OkT.cons (ok_fg [0, 1, 3] (ok_iload_n (kn := 2) rfl cx (by decide +kernel))) <|
  OkT.cons (ok_retZ hr (by decide +kernel)) <|
  OkT.nil⟩
def T_X9_wayFrom (ex : Ex) : Tb := [(0, oAld 0 1), (1, oGetA 7 12), (4, oIld 1 1), (5, oIald), (6, oIst 3 1), (7, pS (fPush (.int 0)) 1), (8, oIst 4 2), (10, oFg [5] (oIld 4 2)), (12, pS (fPush (.int 6)) 2), (14, oIc_gt 87), (17, oAld 0 1), (18, oIld 1 1), (19, oIld 4 2), (21, oIld 2 1), (22, oCallV ex 171 3 7), (25, oIst 5 2), (27, oIld 5 2), (29, pS (fPush (.int (-9))) 2), (31, oIc_eq 81), (34, oAld 0 1), (35, oGetA 7 12), (38, oIld 5 2), (40, oIald), (41, pS (fPush (.int 1000000)) 2), (43, oIc_ge 81), (46, oAld 0 1), (47, oGetA 7 12), (50, oIld 5 2), (52, oIald), (53, oAld 0 1), (54, oIld 1 1), (55, oIld 4 2), (57, oCallV ex 172 2 7), (60, pS (fB (fun x y => x + y)) 1), (61, oIld 3 1), (62, oIc_ge 81), (65, oAld 0 1), (66, oGetA 7 12), (69, oIld 5 2), (71, oIald), (72, oAld 0 1), (73, oIld 1 1), (74, oIld 4 2), (76, oCallV ex 172 2 7), (79, pS (fB (fun x y => x + y)) 1), (80, oIst 3 1), (81, oFg [5] (oInc 4 1)), (84, oGoto 10), (87, oFg [0, 1, 2, 4, 5] (oIld 3 1)), (88, oRetI)]
set_option maxRecDepth 20000 in
theorem ta_X9_wayFrom : TabOk MIS T_X9_wayFrom mi_X9_wayFrom := ⟨by decide +kernel, fun l d ex hex p e R s m args below meth c cells slots ad D cI cZ A cx hR hA hr =>
  OkT.cons (ok_aload_n (kn := 0) rfl cx (by decide +kernel)) <|
  OkT.cons (ok_getA (k := 27) fg_RX9_44 (by decide) rfl cx (by decide +kernel)) <|
  OkT.cons (ok_iload_n (kn := 1) rfl cx (by decide +kernel)) <|
  OkT.cons (ok_Iald cx (by decide +kernel)) <|
  OkT.cons (ok_istore_n (kn := 3) rfl cx (by decide +kernel)) <|
  OkT.cons (ok_iconst (n := 0) cx (by decide +kernel) rfl) <|
  OkT.cons (ok_istore cx (by decide +kernel)) <|
  OkT.cons (ok_fg [5] (ok_iload cx (by decide +kernel))) <|
  OkT.cons (ok_bipush (n := 6) cx (by decide +kernel) rfl) <|
  OkT.cons (ok_Ic_gt (off := 73) (by decide) cx (by decide +kernel)) <|
  OkT.cons (ok_aload_n (kn := 0) rfl cx (by decide +kernel)) <|
  OkT.cons (ok_iload_n (kn := 1) rfl cx (by decide +kernel)) <|
  OkT.cons (ok_iload cx (by decide +kernel)) <|
  OkT.cons (ok_iload_n (kn := 2) rfl cx (by decide +kernel)) <|
  OkT.cons (ok_callV hex rfl rfl (by decide) ca_RX9_199 hR hA cx (by decide +kernel)) <|
  OkT.cons (ok_istore cx (by decide +kernel)) <|
  OkT.cons (ok_iload cx (by decide +kernel)) <|
  OkT.cons (ok_bipush (n := (-9)) cx (by decide +kernel) rfl) <|
  OkT.cons (ok_Ic_eq (off := 50) (by decide) cx (by decide +kernel)) <|
  OkT.cons (ok_aload_n (kn := 0) rfl cx (by decide +kernel)) <|
  OkT.cons (ok_getA (k := 27) fg_RX9_44 (by decide) rfl cx (by decide +kernel)) <|
  OkT.cons (ok_iload cx (by decide +kernel)) <|
  OkT.cons (ok_Iald cx (by decide +kernel)) <|
  OkT.cons (ok_ldc cx w_1123 (by decide +kernel)) <|
  OkT.cons (ok_Ic_ge (off := 38) (by decide) cx (by decide +kernel)) <|
  OkT.cons (ok_aload_n (kn := 0) rfl cx (by decide +kernel)) <|
  OkT.cons (ok_getA (k := 27) fg_RX9_44 (by decide) rfl cx (by decide +kernel)) <|
  OkT.cons (ok_iload cx (by decide +kernel)) <|
  OkT.cons (ok_Iald cx (by decide +kernel)) <|
  OkT.cons (ok_aload_n (kn := 0) rfl cx (by decide +kernel)) <|
  OkT.cons (ok_iload_n (kn := 1) rfl cx (by decide +kernel)) <|
  OkT.cons (ok_iload cx (by decide +kernel)) <|
  OkT.cons (ok_callV hex rfl rfl (by decide) ca_RX9_204 hR hA cx (by decide +kernel)) <|
  OkT.cons (ok_iadd cx (by decide +kernel)) <|
  OkT.cons (ok_iload_n (kn := 3) rfl cx (by decide +kernel)) <|
  OkT.cons (ok_Ic_ge (off := 19) (by decide) cx (by decide +kernel)) <|
  OkT.cons (ok_aload_n (kn := 0) rfl cx (by decide +kernel)) <|
  OkT.cons (ok_getA (k := 27) fg_RX9_44 (by decide) rfl cx (by decide +kernel)) <|
  OkT.cons (ok_iload cx (by decide +kernel)) <|
  OkT.cons (ok_Iald cx (by decide +kernel)) <|
  OkT.cons (ok_aload_n (kn := 0) rfl cx (by decide +kernel)) <|
  OkT.cons (ok_iload_n (kn := 1) rfl cx (by decide +kernel)) <|
  OkT.cons (ok_iload cx (by decide +kernel)) <|
  OkT.cons (ok_callV hex rfl rfl (by decide) ca_RX9_204 hR hA cx (by decide +kernel)) <|
  OkT.cons (ok_iadd cx (by decide +kernel)) <|
  OkT.cons (ok_istore_n (kn := 3) rfl cx (by decide +kernel)) <|
  OkT.cons (ok_fg [5] (ok_iinc (n := 1) rfl cx (by decide +kernel))) <|
  OkT.cons (ok_goto (off := (-74)) (by decide) cx (by decide +kernel)) <|
  OkT.cons (ok_fg [0, 1, 2, 4, 5] (ok_iload_n (kn := 3) rfl cx (by decide +kernel))) <|
  OkT.cons (ok_retI hr (by decide +kernel)) <|
  OkT.nil⟩
def T_X9_sweeps (ex : Ex) : Tb := [(0, pS (fPush (.int 0)) 1), (1, oIst 3 1), (2, oFg [4, 5] (oIld 3 1)), (3, pS (fPush (.int 7776)) 3), (6, oIc_ge 45), (9, oAld 0 1), (10, oGetA 7 12), (13, oIld 3 1), (14, oAld 0 1), (15, oGetA 7 13), (18, oIld 3 1), (19, oZald), (20, oIf_eq 36), (23, oAld 0 1), (24, oIld 3 1), (25, oCallV ex 156 1 7), (28, oIld 1 1), (29, oIc_ne 36), (32, pS (fPush (.int 0)) 1), (33, oGoto 38), (36, oFg [4, 5] (pS (fPush (.int 1000000)) 2)), (38, oFg [4, 5] (oIast)), (39, oInc 3 1), (42, oGoto 2), (45, oFg [1, 3, 4, 5] (pS (fPush (.int 1)) 1)), (46, oIst 3 1), (47, oFg [1, 4, 5] (oIld 3 1)), (48, oIf_eq 128), (51, pS (fPush (.int 0)) 1), (52, oIst 3 1), (53, pS (fPush (.int 0)) 1), (54, oIst 4 2), (56, oFg [1, 5] (oIld 4 2)), (58, pS (fPush (.int 7776)) 3), (61, oIc_ge 125), (64, oAld 0 1), (65, oGetA 7 13), (68, oIld 4 2), (70, oZald), (71, oIf_eq 84), (74, oAld 0 1), (75, oIld 4 2), (77, oIld 2 1), (78, oCallV ex 174 2 7), (81, oGoto 86), (84, oFg [1, 5] (pS (fPush (.int 1000000)) 2)), (86, oFg [1, 5] (oIst 5 2)), (88, oIld 3 1), (89, oIf_ne 104), (92, oIld 5 2), (94, oAld 0 1), (95, oGetA 7 12), (98, oIld 4 2), (100, oIald), (101, oIc_ge 108), (104, oFg [1, 3] (pS (fPush (.int 1)) 1)), (105, oGoto 109), (108, oFg [1, 3] (pS (fPush (.int 0)) 1)), (109, oFg [1, 3] (oIst 3 1)), (110, oAld 0 1), (111, oGetA 7 12), (114, oIld 4 2), (116, oIld 5 2), (118, oIast), (119, oInc 4 1), (122, oGoto 56), (125, oFg [1, 4, 5] (oGoto 47)), (128, oFg [0, 1, 2, 3, 4, 5] (oRetV))]
set_option maxRecDepth 20000 in
theorem ta_X9_sweeps : TabOk MIS T_X9_sweeps mi_X9_sweeps := ⟨by decide +kernel, fun l d ex hex p e R s m args below meth c cells slots ad D cI cZ A cx hR hA hr =>
  OkT.cons (ok_iconst (n := 0) cx (by decide +kernel) rfl) <|
  OkT.cons (ok_istore_n (kn := 3) rfl cx (by decide +kernel)) <|
  OkT.cons (ok_fg [4, 5] (ok_iload_n (kn := 3) rfl cx (by decide +kernel))) <|
  OkT.cons (ok_sipush (n := 7776) cx (by decide +kernel) rfl) <|
  OkT.cons (ok_Ic_ge (off := 39) (by decide) cx (by decide +kernel)) <|
  OkT.cons (ok_aload_n (kn := 0) rfl cx (by decide +kernel)) <|
  OkT.cons (ok_getA (k := 27) fg_RX9_44 (by decide) rfl cx (by decide +kernel)) <|
  OkT.cons (ok_iload_n (kn := 3) rfl cx (by decide +kernel)) <|
  OkT.cons (ok_aload_n (kn := 0) rfl cx (by decide +kernel)) <|
  OkT.cons (ok_getA (k := 28) fg_RX9_47 (by decide) rfl cx (by decide +kernel)) <|
  OkT.cons (ok_iload_n (kn := 3) rfl cx (by decide +kernel)) <|
  OkT.cons (ok_Zald cx (by decide +kernel)) <|
  OkT.cons (ok_If_eq (off := 16) (by decide) cx (by decide +kernel)) <|
  OkT.cons (ok_aload_n (kn := 0) rfl cx (by decide +kernel)) <|
  OkT.cons (ok_iload_n (kn := 3) rfl cx (by decide +kernel)) <|
  OkT.cons (ok_callV hex rfl rfl (by decide) ca_RX9_176 hR hA cx (by decide +kernel)) <|
  OkT.cons (ok_iload_n (kn := 1) rfl cx (by decide +kernel)) <|
  OkT.cons (ok_Ic_ne (off := 7) (by decide) cx (by decide +kernel)) <|
  OkT.cons (ok_iconst (n := 0) cx (by decide +kernel) rfl) <|
  OkT.cons (ok_goto (off := 5) (by decide) cx (by decide +kernel)) <|
  OkT.cons (ok_fg [4, 5] (ok_ldc cx w_1123 (by decide +kernel))) <|
  OkT.cons (ok_fg [4, 5] (ok_Iast cx (by decide +kernel))) <|
  OkT.cons (ok_iinc (n := 1) rfl cx (by decide +kernel)) <|
  OkT.cons (ok_goto (off := (-40)) (by decide) cx (by decide +kernel)) <|
  OkT.cons (ok_fg [1, 3, 4, 5] (ok_iconst (n := 1) cx (by decide +kernel) rfl)) <|
  OkT.cons (ok_istore_n (kn := 3) rfl cx (by decide +kernel)) <|
  OkT.cons (ok_fg [1, 4, 5] (ok_iload_n (kn := 3) rfl cx (by decide +kernel))) <|
  OkT.cons (ok_If_eq (off := 80) (by decide) cx (by decide +kernel)) <|
  OkT.cons (ok_iconst (n := 0) cx (by decide +kernel) rfl) <|
  OkT.cons (ok_istore_n (kn := 3) rfl cx (by decide +kernel)) <|
  OkT.cons (ok_iconst (n := 0) cx (by decide +kernel) rfl) <|
  OkT.cons (ok_istore cx (by decide +kernel)) <|
  OkT.cons (ok_fg [1, 5] (ok_iload cx (by decide +kernel))) <|
  OkT.cons (ok_sipush (n := 7776) cx (by decide +kernel) rfl) <|
  OkT.cons (ok_Ic_ge (off := 64) (by decide) cx (by decide +kernel)) <|
  OkT.cons (ok_aload_n (kn := 0) rfl cx (by decide +kernel)) <|
  OkT.cons (ok_getA (k := 28) fg_RX9_47 (by decide) rfl cx (by decide +kernel)) <|
  OkT.cons (ok_iload cx (by decide +kernel)) <|
  OkT.cons (ok_Zald cx (by decide +kernel)) <|
  OkT.cons (ok_If_eq (off := 13) (by decide) cx (by decide +kernel)) <|
  OkT.cons (ok_aload_n (kn := 0) rfl cx (by decide +kernel)) <|
  OkT.cons (ok_iload cx (by decide +kernel)) <|
  OkT.cons (ok_iload_n (kn := 2) rfl cx (by decide +kernel)) <|
  OkT.cons (ok_callV hex rfl rfl (by decide) ca_RX9_207 hR hA cx (by decide +kernel)) <|
  OkT.cons (ok_goto (off := 5) (by decide) cx (by decide +kernel)) <|
  OkT.cons (ok_fg [1, 5] (ok_ldc cx w_1123 (by decide +kernel))) <|
  OkT.cons (ok_fg [1, 5] (ok_istore cx (by decide +kernel))) <|
  OkT.cons (ok_iload_n (kn := 3) rfl cx (by decide +kernel)) <|
  OkT.cons (ok_If_ne (off := 15) (by decide) cx (by decide +kernel)) <|
  OkT.cons (ok_iload cx (by decide +kernel)) <|
  OkT.cons (ok_aload_n (kn := 0) rfl cx (by decide +kernel)) <|
  OkT.cons (ok_getA (k := 27) fg_RX9_44 (by decide) rfl cx (by decide +kernel)) <|
  OkT.cons (ok_iload cx (by decide +kernel)) <|
  OkT.cons (ok_Iald cx (by decide +kernel)) <|
  OkT.cons (ok_Ic_ge (off := 7) (by decide) cx (by decide +kernel)) <|
  OkT.cons (ok_fg [1, 3] (ok_iconst (n := 1) cx (by decide +kernel) rfl)) <|
  OkT.cons (ok_goto (off := 4) (by decide) cx (by decide +kernel)) <|
  OkT.cons (ok_fg [1, 3] (ok_iconst (n := 0) cx (by decide +kernel) rfl)) <|
  OkT.cons (ok_fg [1, 3] (ok_istore_n (kn := 3) rfl cx (by decide +kernel))) <|
  OkT.cons (ok_aload_n (kn := 0) rfl cx (by decide +kernel)) <|
  OkT.cons (ok_getA (k := 27) fg_RX9_44 (by decide) rfl cx (by decide +kernel)) <|
  OkT.cons (ok_iload cx (by decide +kernel)) <|
  OkT.cons (ok_iload cx (by decide +kernel)) <|
  OkT.cons (ok_Iast cx (by decide +kernel)) <|
  OkT.cons (ok_iinc (n := 1) rfl cx (by decide +kernel)) <|
  OkT.cons (ok_goto (off := (-66)) (by decide) cx (by decide +kernel)) <|
  OkT.cons (ok_fg [1, 4, 5] (ok_goto (off := (-78)) (by decide) cx (by decide +kernel))) <|
  OkT.cons (ok_fg [0, 1, 2, 3, 4, 5] (ok_retV hr (by decide +kernel))) <|
  OkT.nil⟩
def T_X9_cheapest (ex : Ex) : Tb := [(0, oAld 0 1), (1, pS (fPush (.int 0)) 1), (2, oPutI 7 0), (5, oAld 0 1), (6, oIld 1 1), (7, oCallV ex 152 1 7), (10, oIf_eq 50), (13, oIld 2 1), (14, pS (fPush (.int 0)) 1), (15, pS (fPush (.int 1023)) 3), (18, oCallS ex 135 3), (21, oIf_eq 50), (24, oIld 3 1), (25, pS (fPush (.int 0)) 1), (26, pS (fPush (.int 1)) 1), (27, oAld 0 1), (28, oGetI 7 15), (31, pS (fB (fun x y => x <<< (y &&& 31))) 1), (32, pS (fPush (.int 1)) 1), (33, pS (fB (fun x y => x - y)) 1), (34, oCallS ex 135 3), (37, oIf_eq 50), (40, oIld 4 2), (42, pS (fPush (.int 0)) 1), (43, pS (fPush (.int 1)) 1), (44, oCallS ex 135 3), (47, oIf_ne 52), (50, oFg [0, 1, 2, 3, 4, 5, 6, 7] (pS (fPush (.int (-1))) 1)), (51, oRetI), (52, oFg [5, 6, 7] (oAld 0 1)), (53, oIld 2 1), (54, oIld 3 1), (55, oCallV ex 175 2 7), (58, oAld 0 1), (59, oGetA 7 12), (62, oAld 0 1), (63, oGetA 7 6), (66, oIld 1 1), (67, oIald), (68, oIald), (69, oIst 5 2), (71, oIld 5 2), (73, pS (fPush (.int 1000000)) 2), (75, oIc_ne 81), (78, pS (fPush (.int (-9))) 2), (80, oRetI), (81, oFg [2, 6, 7] (oIld 4 2)), (83, oIf_ne 93), (86, oIld 5 2), (88, pS (fPush (.int 1000)) 3), (91, pS (fDv (fun x y => x / y)) 1), (92, oRetI), (93, oFg [2, 4, 6, 7] (pS (fPush (.int 0)) 1)), (94, oIst 6 2), (96, oFg [2, 4, 7] (oIld 6 2)), (98, pS (fPush (.int 6)) 2), (100, oIc_gt 176), (103, oIld 5 2), (105, oIf_le 176), (108, oAld 0 1), (109, oAld 0 1), (110, oGetA 7 6), (113, oIld 1 1), (114, oIald), (115, oIld 6 2), (117, oIld 3 1), (118, oCallV ex 171 3 7), (121, oIst 7 2), (123, oIld 7 2), (125, pS (fPush (.int (-9))) 2), (127, oIc_eq 170), (130, oAld 0 1), (131, oGetA 7 12), (134, oIld 7 2), (136, oIald), (137, pS (fPush (.int 1000000)) 2), (139, oIc_ge 170), (142, oAld 0 1), (143, oGetA 7 12), (146, oIld 7 2), (148, oIald), (149, oAld 0 1), (150, oAld 0 1), (151, oGetA 7 6), (154, oIld 1 1), (155, oIald), (156, oIld 6 2), (158, oCallV ex 172 2 7), (161, pS (fB (fun x y => x + y)) 1), (162, oIld 5 2), (164, oIc_ne 170), (167, oIld 6 2), (169, oRetI), (170, oFg [2, 4, 7] (oInc 6 1)), (173, oGoto 96), (176, oFg [0, 1, 2, 3, 4, 5, 6, 7] (pS (fPush (.int (-5))) 2)), (178, oRetI)]
set_option maxRecDepth 20000 in
theorem ta_X9_cheapest : TabOk MIS T_X9_cheapest mi_X9_cheapest := ⟨by decide +kernel, fun l d ex hex p e R s m args below meth c cells slots ad D cI cZ A cx hR hA hr =>
  OkT.cons (ok_aload_n (kn := 0) rfl cx (by decide +kernel)) <|
  OkT.cons (ok_iconst (n := 0) cx (by decide +kernel) rfl) <|
  OkT.cons (ok_putI fp_RX9_69 (by decide) rfl cx (by decide +kernel)) <|
  OkT.cons (ok_aload_n (kn := 0) rfl cx (by decide +kernel)) <|
  OkT.cons (ok_iload_n (kn := 1) rfl cx (by decide +kernel)) <|
  OkT.cons (ok_callV hex rfl rfl (by decide) ca_RX9_170 hR hA cx (by decide +kernel)) <|
  OkT.cons (ok_If_eq (off := 40) (by decide) cx (by decide +kernel)) <|
  OkT.cons (ok_iload_n (kn := 2) rfl cx (by decide +kernel)) <|
  OkT.cons (ok_iconst (n := 0) cx (by decide +kernel) rfl) <|
  OkT.cons (ok_sipush (n := 1023) cx (by decide +kernel) rfl) <|
  OkT.cons (ok_callS hex rfl ca_RX9_72 hR hA cx (by decide +kernel)) <|
  OkT.cons (ok_If_eq (off := 29) (by decide) cx (by decide +kernel)) <|
  OkT.cons (ok_iload_n (kn := 3) rfl cx (by decide +kernel)) <|
  OkT.cons (ok_iconst (n := 0) cx (by decide +kernel) rfl) <|
  OkT.cons (ok_iconst (n := 1) cx (by decide +kernel) rfl) <|
  OkT.cons (ok_aload_n (kn := 0) rfl cx (by decide +kernel)) <|
  OkT.cons (ok_getI fg_RX9_154 (by decide) rfl cx (by decide +kernel)) <|
  OkT.cons (ok_ishl cx (by decide +kernel)) <|
  OkT.cons (ok_iconst (n := 1) cx (by decide +kernel) rfl) <|
  OkT.cons (ok_isub cx (by decide +kernel)) <|
  OkT.cons (ok_callS hex rfl ca_RX9_72 hR hA cx (by decide +kernel)) <|
  OkT.cons (ok_If_eq (off := 13) (by decide) cx (by decide +kernel)) <|
  OkT.cons (ok_iload cx (by decide +kernel)) <|
  OkT.cons (ok_iconst (n := 0) cx (by decide +kernel) rfl) <|
  OkT.cons (ok_iconst (n := 1) cx (by decide +kernel) rfl) <|
  OkT.cons (ok_callS hex rfl ca_RX9_72 hR hA cx (by decide +kernel)) <|
  OkT.cons (ok_If_ne (off := 5) (by decide) cx (by decide +kernel)) <|
  OkT.cons (ok_fg [0, 1, 2, 3, 4, 5, 6, 7] (ok_iconst (n := (-1)) cx (by decide +kernel) rfl)) <|
  OkT.cons (ok_retI hr (by decide +kernel)) <|
  OkT.cons (ok_fg [5, 6, 7] (ok_aload_n (kn := 0) rfl cx (by decide +kernel))) <|
  OkT.cons (ok_iload_n (kn := 2) rfl cx (by decide +kernel)) <|
  OkT.cons (ok_iload_n (kn := 3) rfl cx (by decide +kernel)) <|
  OkT.cons (ok_callV hex rfl rfl (by decide) ca_RX9_210 hR hA cx (by decide +kernel)) <|
  OkT.cons (ok_aload_n (kn := 0) rfl cx (by decide +kernel)) <|
  OkT.cons (ok_getA (k := 27) fg_RX9_44 (by decide) rfl cx (by decide +kernel)) <|
  OkT.cons (ok_aload_n (kn := 0) rfl cx (by decide +kernel)) <|
  OkT.cons (ok_getA (k := 19) fg_RX9_25 (by decide) rfl cx (by decide +kernel)) <|
  OkT.cons (ok_iload_n (kn := 1) rfl cx (by decide +kernel)) <|
  OkT.cons (ok_Iald cx (by decide +kernel)) <|
  OkT.cons (ok_Iald cx (by decide +kernel)) <|
  OkT.cons (ok_istore cx (by decide +kernel)) <|
  OkT.cons (ok_iload cx (by decide +kernel)) <|
  OkT.cons (ok_ldc cx w_1123 (by decide +kernel)) <|
  OkT.cons (ok_Ic_ne (off := 6) (by decide) cx (by decide +kernel)) <|
  OkT.cons (ok_bipush (n := (-9)) cx (by decide +kernel) rfl) <|
  OkT.cons (ok_retI hr (by decide +kernel)) <|
  OkT.cons (ok_fg [2, 6, 7] (ok_iload cx (by decide +kernel))) <|
  OkT.cons (ok_If_ne (off := 10) (by decide) cx (by decide +kernel)) <|
  OkT.cons (ok_iload cx (by decide +kernel)) <|
  OkT.cons (ok_sipush (n := 1000) cx (by decide +kernel) rfl) <|
  OkT.cons (ok_idiv cx (by decide +kernel)) <|
  OkT.cons (ok_retI hr (by decide +kernel)) <|
  OkT.cons (ok_fg [2, 4, 6, 7] (ok_iconst (n := 0) cx (by decide +kernel) rfl)) <|
  OkT.cons (ok_istore cx (by decide +kernel)) <|
  OkT.cons (ok_fg [2, 4, 7] (ok_iload cx (by decide +kernel))) <|
  OkT.cons (ok_bipush (n := 6) cx (by decide +kernel) rfl) <|
  OkT.cons (ok_Ic_gt (off := 76) (by decide) cx (by decide +kernel)) <|
  OkT.cons (ok_iload cx (by decide +kernel)) <|
  OkT.cons (ok_If_le (off := 71) (by decide) cx (by decide +kernel)) <|
  OkT.cons (ok_aload_n (kn := 0) rfl cx (by decide +kernel)) <|
  OkT.cons (ok_aload_n (kn := 0) rfl cx (by decide +kernel)) <|
  OkT.cons (ok_getA (k := 19) fg_RX9_25 (by decide) rfl cx (by decide +kernel)) <|
  OkT.cons (ok_iload_n (kn := 1) rfl cx (by decide +kernel)) <|
  OkT.cons (ok_Iald cx (by decide +kernel)) <|
  OkT.cons (ok_iload cx (by decide +kernel)) <|
  OkT.cons (ok_iload_n (kn := 3) rfl cx (by decide +kernel)) <|
  OkT.cons (ok_callV hex rfl rfl (by decide) ca_RX9_199 hR hA cx (by decide +kernel)) <|
  OkT.cons (ok_istore cx (by decide +kernel)) <|
  OkT.cons (ok_iload cx (by decide +kernel)) <|
  OkT.cons (ok_bipush (n := (-9)) cx (by decide +kernel) rfl) <|
  OkT.cons (ok_Ic_eq (off := 43) (by decide) cx (by decide +kernel)) <|
  OkT.cons (ok_aload_n (kn := 0) rfl cx (by decide +kernel)) <|
  OkT.cons (ok_getA (k := 27) fg_RX9_44 (by decide) rfl cx (by decide +kernel)) <|
  OkT.cons (ok_iload cx (by decide +kernel)) <|
  OkT.cons (ok_Iald cx (by decide +kernel)) <|
  OkT.cons (ok_ldc cx w_1123 (by decide +kernel)) <|
  OkT.cons (ok_Ic_ge (off := 31) (by decide) cx (by decide +kernel)) <|
  OkT.cons (ok_aload_n (kn := 0) rfl cx (by decide +kernel)) <|
  OkT.cons (ok_getA (k := 27) fg_RX9_44 (by decide) rfl cx (by decide +kernel)) <|
  OkT.cons (ok_iload cx (by decide +kernel)) <|
  OkT.cons (ok_Iald cx (by decide +kernel)) <|
  OkT.cons (ok_aload_n (kn := 0) rfl cx (by decide +kernel)) <|
  OkT.cons (ok_aload_n (kn := 0) rfl cx (by decide +kernel)) <|
  OkT.cons (ok_getA (k := 19) fg_RX9_25 (by decide) rfl cx (by decide +kernel)) <|
  OkT.cons (ok_iload_n (kn := 1) rfl cx (by decide +kernel)) <|
  OkT.cons (ok_Iald cx (by decide +kernel)) <|
  OkT.cons (ok_iload cx (by decide +kernel)) <|
  OkT.cons (ok_callV hex rfl rfl (by decide) ca_RX9_204 hR hA cx (by decide +kernel)) <|
  OkT.cons (ok_iadd cx (by decide +kernel)) <|
  OkT.cons (ok_iload cx (by decide +kernel)) <|
  OkT.cons (ok_Ic_ne (off := 6) (by decide) cx (by decide +kernel)) <|
  OkT.cons (ok_iload cx (by decide +kernel)) <|
  OkT.cons (ok_retI hr (by decide +kernel)) <|
  OkT.cons (ok_fg [2, 4, 7] (ok_iinc (n := 1) rfl cx (by decide +kernel))) <|
  OkT.cons (ok_goto (off := (-77)) (by decide) cx (by decide +kernel)) <|
  OkT.cons (ok_fg [0, 1, 2, 3, 4, 5, 6, 7] (ok_bipush (n := (-5)) cx (by decide +kernel) rfl)) <|
  OkT.cons (ok_retI hr (by decide +kernel)) <|
  OkT.nil⟩
def T_X9_takes_ (ex : Ex) : Tb := [(0, oAld 0 1), (1, pS (fPush (.int 0)) 1), (2, oPutI 7 0), (5, oAld 0 1), (6, oIld 1 1), (7, oCallV ex 152 1 7), (10, oIf_eq 24), (13, oIld 2 1), (14, pS (fPush (.int 0)) 1), (15, pS (fPush (.int 1023)) 3), (18, oCallS ex 135 3), (21, oIf_ne 26), (24, oFg [0, 1, 2, 3, 4] (pS (fPush (.int (-1))) 1)), (25, oRetI), (26, oFg [3, 4] (pS (fPush (.int (-9))) 2)), (28, oIst 3 1), (29, pS (fPush (.int 0)) 1), (30, oIst 4 2), (32, oIld 4 2), (34, pS (fPush (.int 1)) 1), (35, oAld 0 1), (36, oGetI 7 15), (39, pS (fB (fun x y => x <<< (y &&& 31))) 1), (40, oIc_ge 97), (43, oIld 3 1), (44, pS (fPush (.int (-9))) 2), (46, oIc_eq 61), (49, oIld 4 2), (51, oCallS ex 136 1), (54, oIld 3 1), (55, oCallS ex 136 1), (58, oIc_ge 91), (61, oAld 0 1), (62, oIld 2 1), (63, oIld 4 2), (65, oCallV ex 175 2 7), (68, oAld 0 1), (69, oGetA 7 12), (72, oAld 0 1), (73, oGetA 7 6), (76, oIld 1 1), (77, oIald), (78, oIald), (79, pS (fPush (.int 1000000)) 2), (81, oIc_ge 89), (84, oIld 4 2), (86, oGoto 90), (89, oIld 3 1), (90, oFg [3] (oIst 3 1)), (91, oInc 4 1), (94, oGoto 32), (97, oFg [0, 1, 2, 4] (oIld 3 1)), (98, oRetI)]
set_option maxRecDepth 20000 in
theorem ta_X9_takes_ : TabOk MIS T_X9_takes_ mi_X9_takes_ := ⟨by decide +kernel, fun l d ex hex p e R s m args below meth c cells slots ad D cI cZ A cx hR hA hr =>
  OkT.cons (ok_aload_n (kn := 0) rfl cx (by decide +kernel)) <|
  OkT.cons (ok_iconst (n := 0) cx (by decide +kernel) rfl) <|
  OkT.cons (ok_putI fp_RX9_69 (by decide) rfl cx (by decide +kernel)) <|
  OkT.cons (ok_aload_n (kn := 0) rfl cx (by decide +kernel)) <|
  OkT.cons (ok_iload_n (kn := 1) rfl cx (by decide +kernel)) <|
  OkT.cons (ok_callV hex rfl rfl (by decide) ca_RX9_170 hR hA cx (by decide +kernel)) <|
  OkT.cons (ok_If_eq (off := 14) (by decide) cx (by decide +kernel)) <|
  OkT.cons (ok_iload_n (kn := 2) rfl cx (by decide +kernel)) <|
  OkT.cons (ok_iconst (n := 0) cx (by decide +kernel) rfl) <|
  OkT.cons (ok_sipush (n := 1023) cx (by decide +kernel) rfl) <|
  OkT.cons (ok_callS hex rfl ca_RX9_72 hR hA cx (by decide +kernel)) <|
  OkT.cons (ok_If_ne (off := 5) (by decide) cx (by decide +kernel)) <|
  OkT.cons (ok_fg [0, 1, 2, 3, 4] (ok_iconst (n := (-1)) cx (by decide +kernel) rfl)) <|
  OkT.cons (ok_retI hr (by decide +kernel)) <|
  OkT.cons (ok_fg [3, 4] (ok_bipush (n := (-9)) cx (by decide +kernel) rfl)) <|
  OkT.cons (ok_istore_n (kn := 3) rfl cx (by decide +kernel)) <|
  OkT.cons (ok_iconst (n := 0) cx (by decide +kernel) rfl) <|
  OkT.cons (ok_istore cx (by decide +kernel)) <|
  OkT.cons (ok_iload cx (by decide +kernel)) <|
  OkT.cons (ok_iconst (n := 1) cx (by decide +kernel) rfl) <|
  OkT.cons (ok_aload_n (kn := 0) rfl cx (by decide +kernel)) <|
  OkT.cons (ok_getI fg_RX9_154 (by decide) rfl cx (by decide +kernel)) <|
  OkT.cons (ok_ishl cx (by decide +kernel)) <|
  OkT.cons (ok_Ic_ge (off := 57) (by decide) cx (by decide +kernel)) <|
  OkT.cons (ok_iload_n (kn := 3) rfl cx (by decide +kernel)) <|
  OkT.cons (ok_bipush (n := (-9)) cx (by decide +kernel) rfl) <|
  OkT.cons (ok_Ic_eq (off := 15) (by decide) cx (by decide +kernel)) <|
  OkT.cons (ok_iload cx (by decide +kernel)) <|
  OkT.cons (ok_callS hex rfl ca_RX9_214 hR hA cx (by decide +kernel)) <|
  OkT.cons (ok_iload_n (kn := 3) rfl cx (by decide +kernel)) <|
  OkT.cons (ok_callS hex rfl ca_RX9_214 hR hA cx (by decide +kernel)) <|
  OkT.cons (ok_Ic_ge (off := 33) (by decide) cx (by decide +kernel)) <|
  OkT.cons (ok_aload_n (kn := 0) rfl cx (by decide +kernel)) <|
  OkT.cons (ok_iload_n (kn := 2) rfl cx (by decide +kernel)) <|
  OkT.cons (ok_iload cx (by decide +kernel)) <|
  OkT.cons (ok_callV hex rfl rfl (by decide) ca_RX9_210 hR hA cx (by decide +kernel)) <|
  OkT.cons (ok_aload_n (kn := 0) rfl cx (by decide +kernel)) <|
  OkT.cons (ok_getA (k := 27) fg_RX9_44 (by decide) rfl cx (by decide +kernel)) <|
  OkT.cons (ok_aload_n (kn := 0) rfl cx (by decide +kernel)) <|
  OkT.cons (ok_getA (k := 19) fg_RX9_25 (by decide) rfl cx (by decide +kernel)) <|
  OkT.cons (ok_iload_n (kn := 1) rfl cx (by decide +kernel)) <|
  OkT.cons (ok_Iald cx (by decide +kernel)) <|
  OkT.cons (ok_Iald cx (by decide +kernel)) <|
  OkT.cons (ok_ldc cx w_1123 (by decide +kernel)) <|
  OkT.cons (ok_Ic_ge (off := 8) (by decide) cx (by decide +kernel)) <|
  OkT.cons (ok_iload cx (by decide +kernel)) <|
  OkT.cons (ok_goto (off := 4) (by decide) cx (by decide +kernel)) <|
  OkT.cons (ok_iload_n (kn := 3) rfl cx (by decide +kernel)) <|
  OkT.cons (ok_fg [3] (ok_istore_n (kn := 3) rfl cx (by decide +kernel))) <|
  OkT.cons (ok_iinc (n := 1) rfl cx (by decide +kernel)) <|
  OkT.cons (ok_goto (off := (-62)) (by decide) cx (by decide +kernel)) <|
  OkT.cons (ok_fg [0, 1, 2, 4] (ok_iload_n (kn := 3) rfl cx (by decide +kernel))) <|
  OkT.cons (ok_retI hr (by decide +kernel)) <|
  OkT.nil⟩
def T_X9_spellsIn (ex : Ex) : Tb := [(0, pS (fPush (.int 0)) 1), (1, oIst 2 1), (2, oIld 1 1), (3, oIst 3 1), (4, oFg [0, 1] (oIld 3 1)), (5, oIf_le 27), (8, oIld 2 1), (9, pS (fPush (.int 1)) 1), (10, oIld 3 1), (11, pS (fPush (.int 6)) 2), (13, pS (fDv (fun x y => x - x / y * y)) 1), (14, pS (fPush (.int 1)) 1), (15, pS (fB (fun x y => x - y)) 1), (16, pS (fB (fun x y => x <<< (y &&& 31))) 1), (17, pS (fB (fun x y => x ||| y)) 1), (18, oIst 2 1), (19, oIld 3 1), (20, pS (fPush (.int 6)) 2), (22, pS (fDv (fun x y => x / y)) 1), (23, oIst 3 1), (24, oGoto 4), (27, oFg [0, 1, 3] (oIld 2 1)), (28, oRetI)]
set_option maxRecDepth 20000 in
theorem ta_X9_spellsIn : TabOk MIS T_X9_spellsIn mi_X9_spellsIn := ⟨by decide +kernel, fun l d ex hex p e R s m args below meth c cells slots ad D cI cZ A cx hR hA hr =>
  OkT.cons (ok_iconst (n := 0) cx (by decide +kernel) rfl) <|
  OkT.cons (ok_istore_n (kn := 2) rfl cx (by decide +kernel)) <|
  OkT.cons (ok_iload_n (kn := 1) rfl cx (by decide +kernel)) <|
  OkT.cons (ok_istore_n (kn := 3) rfl cx (by decide +kernel)) <|
  OkT.cons (ok_fg [0, 1] (ok_iload_n (kn := 3) rfl cx (by decide +kernel))) <|
  OkT.cons (ok_If_le (off := 22) (by decide) cx (by decide +kernel)) <|
  OkT.cons (ok_iload_n (kn := 2) rfl cx (by decide +kernel)) <|
  OkT.cons (ok_iconst (n := 1) cx (by decide +kernel) rfl) <|
  OkT.cons (ok_iload_n (kn := 3) rfl cx (by decide +kernel)) <|
  OkT.cons (ok_bipush (n := 6) cx (by decide +kernel) rfl) <|
  OkT.cons (ok_irem cx (by decide +kernel)) <|
  OkT.cons (ok_iconst (n := 1) cx (by decide +kernel) rfl) <|
  OkT.cons (ok_isub cx (by decide +kernel)) <|
  OkT.cons (ok_ishl cx (by decide +kernel)) <|
  OkT.cons (ok_ior cx (by decide +kernel)) <|
  OkT.cons (ok_istore_n (kn := 2) rfl cx (by decide +kernel)) <|
  OkT.cons (ok_iload_n (kn := 3) rfl cx (by decide +kernel)) <|
  OkT.cons (ok_bipush (n := 6) cx (by decide +kernel) rfl) <|
  OkT.cons (ok_idiv cx (by decide +kernel)) <|
  OkT.cons (ok_istore_n (kn := 3) rfl cx (by decide +kernel)) <|
  OkT.cons (ok_goto (off := (-20)) (by decide) cx (by decide +kernel)) <|
  OkT.cons (ok_fg [0, 1, 3] (ok_iload_n (kn := 2) rfl cx (by decide +kernel))) <|
  OkT.cons (ok_retI hr (by decide +kernel)) <|
  OkT.nil⟩
def T_X9_learn (ex : Ex) : Tb := [(0, oAld 0 1), (1, pS (fPush (.int 0)) 1), (2, oPutI 7 0), (5, oIld 1 1), (6, pS (fPush (.int 0)) 1), (7, pS (fPush (.int 1023)) 3), (10, oCallS ex 135 3), (13, oIf_eq 25), (16, oIld 2 1), (17, pS (fPush (.int 0)) 1), (18, pS (fPush (.int 1)) 1), (19, oCallS ex 135 3), (22, oIf_ne 27), (25, oFg [0, 1, 2, 3, 4, 5, 6] (pS (fPush (.int (-1))) 1)), (26, oRetI), (27, oFg [3, 4, 5, 6] (pS (fPush (.int (-9))) 2)), (29, oIst 3 1), (30, pS (fPush (.int 0)) 1), (31, oIst 4 2), (33, oFg [5, 6] (oIld 4 2)), (35, pS (fPush (.int 7776)) 3), (38, oIc_ge 130), (41, oAld 0 1), (42, oGetA 7 13), (45, oIld 4 2), (47, oZald), (48, oIf_eq 124), (51, oAld 0 1), (52, oIld 4 2), (54, oCallV ex 156 1 7), (57, oIld 1 1), (58, oIc_ne 124), (61, oAld 0 1), (62, oIld 4 2), (64, oCallV ex 178 1 7), (67, oIst 5 2), (69, oIld 3 1), (70, pS (fPush (.int (-9))) 2), (72, oIc_eq 105), (75, oIld 5 2), (77, oCallS ex 136 1), (80, oIld 3 1), (81, oCallS ex 136 1), (84, oIc_lt 105), (87, oIld 5 2), (89, oCallS ex 136 1), (92, oIld 3 1), (93, oCallS ex 136 1), (96, oIc_ne 109), (99, oIld 5 2), (101, oIld 3 1), (102, oIc_ge 109), (105, oFg [6] (pS (fPush (.int 1)) 1)), (106, oGoto 110), (109, oFg [6] (pS (fPush (.int 0)) 1)), (110, oFg [6] (oIst 6 2)), (112, oIld 6 2), (114, oIf_eq 122), (117, oIld 5 2), (119, oGoto 123), (122, oFg [5, 6] (oIld 3 1)), (123, oFg [3, 5, 6] (oIst 3 1)), (124, oFg [5, 6] (oInc 4 1)), (127, oGoto 33), (130, oFg [0, 1, 4, 5, 6] (oIld 3 1)), (131, pS (fPush (.int (-9))) 2), (133, oIc_eq 141), (136, oIld 2 1), (137, pS (fPush (.int 1)) 1), (138, oIc_ne 145), (141, oFg [0, 1, 2, 4, 5, 6] (oIld 3 1)), (142, oGoto 149), (145, oFg [0, 1, 2, 4, 5, 6] (oIld 3 1)), (146, oCallS ex 136 1), (149, oFg [0, 1, 2, 3, 4, 5, 6] (oRetI))]
set_option maxRecDepth 20000 in
theorem ta_X9_learn : TabOk MIS T_X9_learn mi_X9_learn := ⟨by decide +kernel, fun l d ex hex p e R s m args below meth c cells slots ad D cI cZ A cx hR hA hr =>
  OkT.cons (ok_aload_n (kn := 0) rfl cx (by decide +kernel)) <|
  OkT.cons (ok_iconst (n := 0) cx (by decide +kernel) rfl) <|
  OkT.cons (ok_putI fp_RX9_69 (by decide) rfl cx (by decide +kernel)) <|
  OkT.cons (ok_iload_n (kn := 1) rfl cx (by decide +kernel)) <|
  OkT.cons (ok_iconst (n := 0) cx (by decide +kernel) rfl) <|
  OkT.cons (ok_sipush (n := 1023) cx (by decide +kernel) rfl) <|
  OkT.cons (ok_callS hex rfl ca_RX9_72 hR hA cx (by decide +kernel)) <|
  OkT.cons (ok_If_eq (off := 12) (by decide) cx (by decide +kernel)) <|
  OkT.cons (ok_iload_n (kn := 2) rfl cx (by decide +kernel)) <|
  OkT.cons (ok_iconst (n := 0) cx (by decide +kernel) rfl) <|
  OkT.cons (ok_iconst (n := 1) cx (by decide +kernel) rfl) <|
  OkT.cons (ok_callS hex rfl ca_RX9_72 hR hA cx (by decide +kernel)) <|
  OkT.cons (ok_If_ne (off := 5) (by decide) cx (by decide +kernel)) <|
  OkT.cons (ok_fg [0, 1, 2, 3, 4, 5, 6] (ok_iconst (n := (-1)) cx (by decide +kernel) rfl)) <|
  OkT.cons (ok_retI hr (by decide +kernel)) <|
  OkT.cons (ok_fg [3, 4, 5, 6] (ok_bipush (n := (-9)) cx (by decide +kernel) rfl)) <|
  OkT.cons (ok_istore_n (kn := 3) rfl cx (by decide +kernel)) <|
  OkT.cons (ok_iconst (n := 0) cx (by decide +kernel) rfl) <|
  OkT.cons (ok_istore cx (by decide +kernel)) <|
  OkT.cons (ok_fg [5, 6] (ok_iload cx (by decide +kernel))) <|
  OkT.cons (ok_sipush (n := 7776) cx (by decide +kernel) rfl) <|
  OkT.cons (ok_Ic_ge (off := 92) (by decide) cx (by decide +kernel)) <|
  OkT.cons (ok_aload_n (kn := 0) rfl cx (by decide +kernel)) <|
  OkT.cons (ok_getA (k := 28) fg_RX9_47 (by decide) rfl cx (by decide +kernel)) <|
  OkT.cons (ok_iload cx (by decide +kernel)) <|
  OkT.cons (ok_Zald cx (by decide +kernel)) <|
  OkT.cons (ok_If_eq (off := 76) (by decide) cx (by decide +kernel)) <|
  OkT.cons (ok_aload_n (kn := 0) rfl cx (by decide +kernel)) <|
  OkT.cons (ok_iload cx (by decide +kernel)) <|
  OkT.cons (ok_callV hex rfl rfl (by decide) ca_RX9_176 hR hA cx (by decide +kernel)) <|
  OkT.cons (ok_iload_n (kn := 1) rfl cx (by decide +kernel)) <|
  OkT.cons (ok_Ic_ne (off := 66) (by decide) cx (by decide +kernel)) <|
  OkT.cons (ok_aload_n (kn := 0) rfl cx (by decide +kernel)) <|
  OkT.cons (ok_iload cx (by decide +kernel)) <|
  OkT.cons (ok_callV hex rfl rfl (by decide) ca_RX9_217 hR hA cx (by decide +kernel)) <|
  OkT.cons (ok_istore cx (by decide +kernel)) <|
  OkT.cons (ok_iload_n (kn := 3) rfl cx (by decide +kernel)) <|
  OkT.cons (ok_bipush (n := (-9)) cx (by decide +kernel) rfl) <|
  OkT.cons (ok_Ic_eq (off := 33) (by decide) cx (by decide +kernel)) <|
  OkT.cons (ok_iload cx (by decide +kernel)) <|
  OkT.cons (ok_callS hex rfl ca_RX9_214 hR hA cx (by decide +kernel)) <|
  OkT.cons (ok_iload_n (kn := 3) rfl cx (by decide +kernel)) <|
  OkT.cons (ok_callS hex rfl ca_RX9_214 hR hA cx (by decide +kernel)) <|
  OkT.cons (ok_Ic_lt (off := 21) (by decide) cx (by decide +kernel)) <|
  OkT.cons (ok_iload cx (by decide +kernel)) <|
  OkT.cons (ok_callS hex rfl ca_RX9_214 hR hA cx (by decide +kernel)) <|
  OkT.cons (ok_iload_n (kn := 3) rfl cx (by decide +kernel)) <|
  OkT.cons (ok_callS hex rfl ca_RX9_214 hR hA cx (by decide +kernel)) <|
  OkT.cons (ok_Ic_ne (off := 13) (by decide) cx (by decide +kernel)) <|
  OkT.cons (ok_iload cx (by decide +kernel)) <|
  OkT.cons (ok_iload_n (kn := 3) rfl cx (by decide +kernel)) <|
  OkT.cons (ok_Ic_ge (off := 7) (by decide) cx (by decide +kernel)) <|
  OkT.cons (ok_fg [6] (ok_iconst (n := 1) cx (by decide +kernel) rfl)) <|
  OkT.cons (ok_goto (off := 4) (by decide) cx (by decide +kernel)) <|
  OkT.cons (ok_fg [6] (ok_iconst (n := 0) cx (by decide +kernel) rfl)) <|
  OkT.cons (ok_fg [6] (ok_istore cx (by decide +kernel))) <|
  OkT.cons (ok_iload cx (by decide +kernel)) <|
  OkT.cons (ok_If_eq (off := 8) (by decide) cx (by decide +kernel)) <|
  OkT.cons (ok_iload cx (by decide +kernel)) <|
  OkT.cons (ok_goto (off := 4) (by decide) cx (by decide +kernel)) <|
  OkT.cons (ok_fg [5, 6] (ok_iload_n (kn := 3) rfl cx (by decide +kernel))) <|
  OkT.cons (ok_fg [3, 5, 6] (ok_istore_n (kn := 3) rfl cx (by decide +kernel))) <|
  OkT.cons (ok_fg [5, 6] (ok_iinc (n := 1) rfl cx (by decide +kernel))) <|
  OkT.cons (ok_goto (off := (-94)) (by decide) cx (by decide +kernel)) <|
  OkT.cons (ok_fg [0, 1, 4, 5, 6] (ok_iload_n (kn := 3) rfl cx (by decide +kernel))) <|
  OkT.cons (ok_bipush (n := (-9)) cx (by decide +kernel) rfl) <|
  OkT.cons (ok_Ic_eq (off := 8) (by decide) cx (by decide +kernel)) <|
  OkT.cons (ok_iload_n (kn := 2) rfl cx (by decide +kernel)) <|
  OkT.cons (ok_iconst (n := 1) cx (by decide +kernel) rfl) <|
  OkT.cons (ok_Ic_ne (off := 7) (by decide) cx (by decide +kernel)) <|
  OkT.cons (ok_fg [0, 1, 2, 4, 5, 6] (ok_iload_n (kn := 3) rfl cx (by decide +kernel))) <|
  OkT.cons (ok_goto (off := 7) (by decide) cx (by decide +kernel)) <|
  OkT.cons (ok_fg [0, 1, 2, 4, 5, 6] (ok_iload_n (kn := 3) rfl cx (by decide +kernel))) <|
  OkT.cons (ok_callS hex rfl ca_RX9_214 hR hA cx (by decide +kernel)) <|
  OkT.cons (ok_fg [0, 1, 2, 3, 4, 5, 6] (ok_retI hr (by decide +kernel))) <|
  OkT.nil⟩
def T_X9_saw (ex : Ex) : Tb := [(0, oAld 0 1), (1, pS (fPush (.int 0)) 1), (2, oPutI 7 0), (5, oIld 1 1), (6, pS (fPush (.int 0)) 1), (7, pS (fPush (.int 3)) 1), (8, oCallS ex 135 3), (11, oIf_eq 25), (14, oIld 2 1), (15, pS (fPush (.int 0)) 1), (16, pS (fPush (.int 1023)) 3), (19, oCallS ex 135 3), (22, oIf_ne 27), (25, oFg [0, 1, 2] (pS (fPush (.int (-1))) 1)), (26, oRetI), (27, oAld 0 1), (28, oGetI 7 26), (31, pS (fPush (.int 6)) 2), (33, oIc_ne 39), (36, pS (fPush (.int (-3))) 2), (38, oRetI), (39, oAld 0 1), (40, oGetA 7 10), (43, oAld 0 1), (44, oGetI 7 26), (47, oIld 1 1), (48, oIast), (49, oAld 0 1), (50, oGetA 7 11), (53, oAld 0 1), (54, oGetI 7 26), (57, oIld 2 1), (58, oIast), (59, oAld 0 1), (60, pS fDup 1), (61, oGetI 7 26), (64, pS (fPush (.int 1)) 1), (65, pS (fB (fun x y => x + y)) 1), (66, oPutI 7 26), (69, oAld 0 1), (70, oGetI 7 26), (73, oRetI)]
set_option maxRecDepth 20000 in
theorem ta_X9_saw : TabOk MIS T_X9_saw mi_X9_saw := ⟨by decide +kernel, fun l d ex hex p e R s m args below meth c cells slots ad D cI cZ A cx hR hA hr =>
  OkT.cons (ok_aload_n (kn := 0) rfl cx (by decide +kernel)) <|
  OkT.cons (ok_iconst (n := 0) cx (by decide +kernel) rfl) <|
  OkT.cons (ok_putI fp_RX9_69 (by decide) rfl cx (by decide +kernel)) <|
  OkT.cons (ok_iload_n (kn := 1) rfl cx (by decide +kernel)) <|
  OkT.cons (ok_iconst (n := 0) cx (by decide +kernel) rfl) <|
  OkT.cons (ok_iconst (n := 3) cx (by decide +kernel) rfl) <|
  OkT.cons (ok_callS hex rfl ca_RX9_72 hR hA cx (by decide +kernel)) <|
  OkT.cons (ok_If_eq (off := 14) (by decide) cx (by decide +kernel)) <|
  OkT.cons (ok_iload_n (kn := 2) rfl cx (by decide +kernel)) <|
  OkT.cons (ok_iconst (n := 0) cx (by decide +kernel) rfl) <|
  OkT.cons (ok_sipush (n := 1023) cx (by decide +kernel) rfl) <|
  OkT.cons (ok_callS hex rfl ca_RX9_72 hR hA cx (by decide +kernel)) <|
  OkT.cons (ok_If_ne (off := 5) (by decide) cx (by decide +kernel)) <|
  OkT.cons (ok_fg [0, 1, 2] (ok_iconst (n := (-1)) cx (by decide +kernel) rfl)) <|
  OkT.cons (ok_retI hr (by decide +kernel)) <|
  OkT.cons (ok_aload_n (kn := 0) rfl cx (by decide +kernel)) <|
  OkT.cons (ok_getI fg_RX9_160 (by decide) rfl cx (by decide +kernel)) <|
  OkT.cons (ok_bipush (n := 6) cx (by decide +kernel) rfl) <|
  OkT.cons (ok_Ic_ne (off := 6) (by decide) cx (by decide +kernel)) <|
  OkT.cons (ok_bipush (n := (-3)) cx (by decide +kernel) rfl) <|
  OkT.cons (ok_retI hr (by decide +kernel)) <|
  OkT.cons (ok_aload_n (kn := 0) rfl cx (by decide +kernel)) <|
  OkT.cons (ok_getA (k := 24) fg_RX9_38 (by decide) rfl cx (by decide +kernel)) <|
  OkT.cons (ok_aload_n (kn := 0) rfl cx (by decide +kernel)) <|
  OkT.cons (ok_getI fg_RX9_160 (by decide) rfl cx (by decide +kernel)) <|
  OkT.cons (ok_iload_n (kn := 1) rfl cx (by decide +kernel)) <|
  OkT.cons (ok_Iast cx (by decide +kernel)) <|
  OkT.cons (ok_aload_n (kn := 0) rfl cx (by decide +kernel)) <|
  OkT.cons (ok_getA (k := 25) fg_RX9_41 (by decide) rfl cx (by decide +kernel)) <|
  OkT.cons (ok_aload_n (kn := 0) rfl cx (by decide +kernel)) <|
  OkT.cons (ok_getI fg_RX9_160 (by decide) rfl cx (by decide +kernel)) <|
  OkT.cons (ok_iload_n (kn := 2) rfl cx (by decide +kernel)) <|
  OkT.cons (ok_Iast cx (by decide +kernel)) <|
  OkT.cons (ok_aload_n (kn := 0) rfl cx (by decide +kernel)) <|
  OkT.cons (ok_dup cx (by decide +kernel)) <|
  OkT.cons (ok_getI fg_RX9_160 (by decide) rfl cx (by decide +kernel)) <|
  OkT.cons (ok_iconst (n := 1) cx (by decide +kernel) rfl) <|
  OkT.cons (ok_iadd cx (by decide +kernel)) <|
  OkT.cons (ok_putI fp_RX9_160 (by decide) rfl cx (by decide +kernel)) <|
  OkT.cons (ok_aload_n (kn := 0) rfl cx (by decide +kernel)) <|
  OkT.cons (ok_getI fg_RX9_160 (by decide) rfl cx (by decide +kernel)) <|
  OkT.cons (ok_retI hr (by decide +kernel)) <|
  OkT.nil⟩
def T_X9_forget (ex : Ex) : Tb := [(0, oAld 0 1), (1, pS (fPush (.int 0)) 1), (2, oPutI 7 0), (5, oAld 0 1), (6, oGetI 7 26), (9, oIst 1 1), (10, oAld 0 1), (11, pS (fPush (.int 0)) 1), (12, oPutI 7 26), (15, oIld 1 1), (16, oRetI)]
set_option maxRecDepth 20000 in
theorem ta_X9_forget : TabOk MIS T_X9_forget mi_X9_forget := ⟨by decide +kernel, fun l d ex hex p e R s m args below meth c cells slots ad D cI cZ A cx hR hA hr =>
  OkT.cons (ok_aload_n (kn := 0) rfl cx (by decide +kernel)) <|
  OkT.cons (ok_iconst (n := 0) cx (by decide +kernel) rfl) <|
  OkT.cons (ok_putI fp_RX9_69 (by decide) rfl cx (by decide +kernel)) <|
  OkT.cons (ok_aload_n (kn := 0) rfl cx (by decide +kernel)) <|
  OkT.cons (ok_getI fg_RX9_160 (by decide) rfl cx (by decide +kernel)) <|
  OkT.cons (ok_istore_n (kn := 1) rfl cx (by decide +kernel)) <|
  OkT.cons (ok_aload_n (kn := 0) rfl cx (by decide +kernel)) <|
  OkT.cons (ok_iconst (n := 0) cx (by decide +kernel) rfl) <|
  OkT.cons (ok_putI fp_RX9_160 (by decide) rfl cx (by decide +kernel)) <|
  OkT.cons (ok_iload_n (kn := 1) rfl cx (by decide +kernel)) <|
  OkT.cons (ok_retI hr (by decide +kernel)) <|
  OkT.nil⟩
def T_X9_withoutTop (ex : Ex) : Tb := [(0, oIld 0 1), (1, oIst 2 1), (2, pS (fPush (.int 0)) 1), (3, oIst 3 1), (4, oFg [0] (oIld 3 1)), (5, oIld 1 1), (6, oIc_ge 20), (9, oIld 2 1), (10, pS (fPush (.int 6)) 2), (12, pS (fDv (fun x y => x / y)) 1), (13, oIst 2 1), (14, oInc 3 1), (17, oGoto 4), (20, oFg [0, 1, 3] (oIld 2 1)), (21, oRetI)]
set_option maxRecDepth 20000 in
theorem ta_X9_withoutTop : TabOk MIS T_X9_withoutTop mi_X9_withoutTop := ⟨by decide +kernel, fun l d ex hex p e R s m args below meth c cells slots ad D cI cZ A cx hR hA hr =>
  OkT.cons (ok_iload_n (kn := 0) rfl cx (by decide +kernel)) <|
  OkT.cons (ok_istore_n (kn := 2) rfl cx (by decide +kernel)) <|
  OkT.cons (ok_iconst (n := 0) cx (by decide +kernel) rfl) <|
  OkT.cons (ok_istore_n (kn := 3) rfl cx (by decide +kernel)) <|
  OkT.cons (ok_fg [0] (ok_iload_n (kn := 3) rfl cx (by decide +kernel))) <|
  OkT.cons (ok_iload_n (kn := 1) rfl cx (by decide +kernel)) <|
  OkT.cons (ok_Ic_ge (off := 14) (by decide) cx (by decide +kernel)) <|
  OkT.cons (ok_iload_n (kn := 2) rfl cx (by decide +kernel)) <|
  OkT.cons (ok_bipush (n := 6) cx (by decide +kernel) rfl) <|
  OkT.cons (ok_idiv cx (by decide +kernel)) <|
  OkT.cons (ok_istore_n (kn := 2) rfl cx (by decide +kernel)) <|
  OkT.cons (ok_iinc (n := 1) rfl cx (by decide +kernel)) <|
  OkT.cons (ok_goto (off := (-13)) (by decide) cx (by decide +kernel)) <|
  OkT.cons (ok_fg [0, 1, 3] (ok_iload_n (kn := 2) rfl cx (by decide +kernel))) <|
  OkT.cons (ok_retI hr (by decide +kernel)) <|
  OkT.nil⟩

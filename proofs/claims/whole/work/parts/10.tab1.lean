/-! the tables of the methods and that they are right (printed by a program) -/
def T_X5_spellsOfPupil (ex : Ex) : Tb := [(0, oAld 0 1), (1, oGetA 3 6), (4, oIld 1 1), (5, oCallS ex 133 2), (8, oRetI)]
set_option maxRecDepth 20000 in
theorem ta_X5_spellsOfPupil : TabOk MIS T_X5_spellsOfPupil mi_X5_spellsOfPupil := ⟨by decide +kernel, fun l d ex hex p e R s m args below meth c cells slots ad D cI cZ A cx hR hA hr =>
  OkT.cons (ok_aload_n (kn := 0) rfl cx (by decide +kernel)) <|
  OkT.cons (ok_getA (k := 5) fg_RX5_27 (by decide) rfl cx (by decide +kernel)) <|
  OkT.cons (ok_iload_n (kn := 1) rfl cx (by decide +kernel)) <|
  OkT.cons (ok_callN hex rfl ca_RX5_59 hR hA cx (by decide +kernel)) <|
  OkT.cons (ok_retI hr (by decide +kernel)) <|
  OkT.nil⟩
def T_X5_spellsOfSet (ex : Ex) : Tb := [(0, pS (fPush (.int 0)) 1), (1, oIst 2 1), (2, pS (fPush (.int 0)) 1), (3, oIst 3 1), (4, oIld 3 1), (5, oAld 0 1), (6, oGetI 3 8), (9, oIc_ge 35), (12, oIld 1 1), (13, oIld 3 1), (14, pS (fB (fun x y => x >>> (y &&& 31))) 1), (15, pS (fPush (.int 1)) 1), (16, pS (fB (fun x y => x &&& y)) 1), (17, pS (fPush (.int 1)) 1), (18, oIc_ne 29), (21, oIld 2 1), (22, oAld 0 1), (23, oIld 3 1), (24, oCallV ex 68 1 3), (27, pS (fB (fun x y => x ||| y)) 1), (28, oIst 2 1), (29, oInc 3 1), (32, oGoto 4), (35, oFg [0, 1, 3] (oIld 2 1)), (36, oRetI)]
set_option maxRecDepth 20000 in
theorem ta_X5_spellsOfSet : TabOk MIS T_X5_spellsOfSet mi_X5_spellsOfSet := ⟨by decide +kernel, fun l d ex hex p e R s m args below meth c cells slots ad D cI cZ A cx hR hA hr =>
  OkT.cons (ok_iconst (n := 0) cx (by decide +kernel) rfl) <|
  OkT.cons (ok_istore_n (kn := 2) rfl cx (by decide +kernel)) <|
  OkT.cons (ok_iconst (n := 0) cx (by decide +kernel) rfl) <|
  OkT.cons (ok_istore_n (kn := 3) rfl cx (by decide +kernel)) <|
  OkT.cons (ok_iload_n (kn := 3) rfl cx (by decide +kernel)) <|
  OkT.cons (ok_aload_n (kn := 0) rfl cx (by decide +kernel)) <|
  OkT.cons (ok_getI fg_RX5_46 (by decide) rfl cx (by decide +kernel)) <|
  OkT.cons (ok_Ic_ge (off := 26) (by decide) cx (by decide +kernel)) <|
  OkT.cons (ok_iload_n (kn := 1) rfl cx (by decide +kernel)) <|
  OkT.cons (ok_iload_n (kn := 3) rfl cx (by decide +kernel)) <|
  OkT.cons (ok_ishr cx (by decide +kernel)) <|
  OkT.cons (ok_iconst (n := 1) cx (by decide +kernel) rfl) <|
  OkT.cons (ok_iand cx (by decide +kernel)) <|
  OkT.cons (ok_iconst (n := 1) cx (by decide +kernel) rfl) <|
  OkT.cons (ok_Ic_ne (off := 11) (by decide) cx (by decide +kernel)) <|
  OkT.cons (ok_iload_n (kn := 2) rfl cx (by decide +kernel)) <|
  OkT.cons (ok_aload_n (kn := 0) rfl cx (by decide +kernel)) <|
  OkT.cons (ok_iload_n (kn := 3) rfl cx (by decide +kernel)) <|
  OkT.cons (ok_callV hex rfl rfl (by decide) ca_RX5_63 hR hA cx (by decide +kernel)) <|
  OkT.cons (ok_ior cx (by decide +kernel)) <|
  OkT.cons (ok_istore_n (kn := 2) rfl cx (by decide +kernel)) <|
  OkT.cons (ok_iinc (n := 1) rfl cx (by decide +kernel)) <|
  OkT.cons (ok_goto (off := (-28)) (by decide) cx (by decide +kernel)) <|
  OkT.cons (ok_fg [0, 1, 3] (ok_iload_n (kn := 2) rfl cx (by decide +kernel))) <|
  OkT.cons (ok_retI hr (by decide +kernel)) <|
  OkT.nil⟩
def T_X5_sayersOf (ex : Ex) : Tb := [(0, pS (fPush (.int 0)) 1), (1, oIst 2 1), (2, pS (fPush (.int 0)) 1), (3, oIst 3 1), (4, oIld 3 1), (5, oAld 0 1), (6, oGetI 3 8), (9, oIc_ge 30), (12, oIld 2 1), (13, oAld 0 1), (14, oIld 3 1), (15, oCallV ex 68 1 3), (18, oIld 1 1), (19, pS (fB (fun x y => x >>> (y &&& 31))) 1), (20, pS (fPush (.int 1)) 1), (21, pS (fB (fun x y => x &&& y)) 1), (22, pS (fB (fun x y => x + y)) 1), (23, oIst 2 1), (24, oInc 3 1), (27, oGoto 4), (30, oFg [0, 1, 3] (oIld 2 1)), (31, oRetI)]
set_option maxRecDepth 20000 in
theorem ta_X5_sayersOf : TabOk MIS T_X5_sayersOf mi_X5_sayersOf := ⟨by decide +kernel, fun l d ex hex p e R s m args below meth c cells slots ad D cI cZ A cx hR hA hr =>
  OkT.cons (ok_iconst (n := 0) cx (by decide +kernel) rfl) <|
  OkT.cons (ok_istore_n (kn := 2) rfl cx (by decide +kernel)) <|
  OkT.cons (ok_iconst (n := 0) cx (by decide +kernel) rfl) <|
  OkT.cons (ok_istore_n (kn := 3) rfl cx (by decide +kernel)) <|
  OkT.cons (ok_iload_n (kn := 3) rfl cx (by decide +kernel)) <|
  OkT.cons (ok_aload_n (kn := 0) rfl cx (by decide +kernel)) <|
  OkT.cons (ok_getI fg_RX5_46 (by decide) rfl cx (by decide +kernel)) <|
  OkT.cons (ok_Ic_ge (off := 21) (by decide) cx (by decide +kernel)) <|
  OkT.cons (ok_iload_n (kn := 2) rfl cx (by decide +kernel)) <|
  OkT.cons (ok_aload_n (kn := 0) rfl cx (by decide +kernel)) <|
  OkT.cons (ok_iload_n (kn := 3) rfl cx (by decide +kernel)) <|
  OkT.cons (ok_callV hex rfl rfl (by decide) ca_RX5_63 hR hA cx (by decide +kernel)) <|
  OkT.cons (ok_iload_n (kn := 1) rfl cx (by decide +kernel)) <|
  OkT.cons (ok_ishr cx (by decide +kernel)) <|
  OkT.cons (ok_iconst (n := 1) cx (by decide +kernel) rfl) <|
  OkT.cons (ok_iand cx (by decide +kernel)) <|
  OkT.cons (ok_iadd cx (by decide +kernel)) <|
  OkT.cons (ok_istore_n (kn := 2) rfl cx (by decide +kernel)) <|
  OkT.cons (ok_iinc (n := 1) rfl cx (by decide +kernel)) <|
  OkT.cons (ok_goto (off := (-23)) (by decide) cx (by decide +kernel)) <|
  OkT.cons (ok_fg [0, 1, 3] (ok_iload_n (kn := 2) rfl cx (by decide +kernel))) <|
  OkT.cons (ok_retI hr (by decide +kernel)) <|
  OkT.nil⟩
def T_X5_maySay (ex : Ex) : Tb := [(0, oAld 0 1), (1, oIld 1 1), (2, pS (fPush (.int 1)) 1), (3, oIld 2 1), (4, pS (fB (fun x y => x <<< (y &&& 31))) 1), (5, oCallV ex 72 2 3), (8, oRetZ)]
set_option maxRecDepth 20000 in
theorem ta_X5_maySay : TabOk MIS T_X5_maySay mi_X5_maySay := ⟨by decide +kernel, fun l d ex hex p e R s m args below meth c cells slots ad D cI cZ A cx hR hA hr =>
  OkT.cons (ok_aload_n (kn := 0) rfl cx (by decide +kernel)) <|
  OkT.cons (ok_iload_n (kn := 1) rfl cx (by decide +kernel)) <|
  OkT.cons (ok_iconst (n := 1) cx (by decide +kernel) rfl) <|
  OkT.cons (ok_iload_n (kn := 2) rfl cx (by decide +kernel)) <|
  OkT.cons (ok_ishl cx (by decide +kernel)) <|
  OkT.cons (ok_callV hex rfl rfl (by decide) ca_RX5_67 hR hA cx (by decide +kernel)) <|
  OkT.cons (ok_retZ hr (by decide +kernel)) <|
  OkT.nil⟩
def T_X5_mayOneSay (ex : Ex) : Tb := [(0, pS (fPush (.int 0)) 1), (1, oIst 3 1), (2, oIld 3 1), (3, oAld 0 1), (4, oGetI 3 8), (7, oIc_ge 41), (10, oIld 1 1), (11, oIld 3 1), (12, pS (fB (fun x y => x >>> (y &&& 31))) 1), (13, pS (fPush (.int 1)) 1), (14, pS (fB (fun x y => x &&& y)) 1), (15, pS (fPush (.int 1)) 1), (16, oIc_ne 35), (19, oAld 0 1), (20, oGetA 3 6), (23, oIld 3 1), (24, oCallS ex 133 2), (27, oIld 2 1), (28, pS (fB (fun x y => x &&& y)) 1), (29, oIld 2 1), (30, oIc_ne 35), (33, pS (fPush (.int 1)) 1), (34, oRetZ), (35, oInc 3 1), (38, oGoto 2), (41, oFg [0, 1, 2, 3] (pS (fPush (.int 0)) 1)), (42, oRetZ)]
set_option maxRecDepth 20000 in
theorem ta_X5_mayOneSay : TabOk MIS T_X5_mayOneSay mi_X5_mayOneSay := ⟨by decide +kernel, fun l d ex hex p e R s m args below meth c cells slots ad D cI cZ A cx hR hA hr =>
  OkT.cons (ok_iconst (n := 0) cx (by decide +kernel) rfl) <|
  OkT.cons (ok_istore_n (kn := 3) rfl cx (by decide +kernel)) <|
  OkT.cons (ok_iload_n (kn := 3) rfl cx (by decide +kernel)) <|
  OkT.cons (ok_aload_n (kn := 0) rfl cx (by decide +kernel)) <|
  OkT.cons (ok_getI fg_RX5_46 (by decide) rfl cx (by decide +kernel)) <|
  OkT.cons (ok_Ic_ge (off := 34) (by decide) cx (by decide +kernel)) <|
  OkT.cons (ok_iload_n (kn := 1) rfl cx (by decide +kernel)) <|
  OkT.cons (ok_iload_n (kn := 3) rfl cx (by decide +kernel)) <|
  OkT.cons (ok_ishr cx (by decide +kernel)) <|
  OkT.cons (ok_iconst (n := 1) cx (by decide +kernel) rfl) <|
  OkT.cons (ok_iand cx (by decide +kernel)) <|
  OkT.cons (ok_iconst (n := 1) cx (by decide +kernel) rfl) <|
  OkT.cons (ok_Ic_ne (off := 19) (by decide) cx (by decide +kernel)) <|
  OkT.cons (ok_aload_n (kn := 0) rfl cx (by decide +kernel)) <|
  OkT.cons (ok_getA (k := 5) fg_RX5_27 (by decide) rfl cx (by decide +kernel)) <|
  OkT.cons (ok_iload_n (kn := 3) rfl cx (by decide +kernel)) <|
  OkT.cons (ok_callN hex rfl ca_RX5_59 hR hA cx (by decide +kernel)) <|
  OkT.cons (ok_iload_n (kn := 2) rfl cx (by decide +kernel)) <|
  OkT.cons (ok_iand cx (by decide +kernel)) <|
  OkT.cons (ok_iload_n (kn := 2) rfl cx (by decide +kernel)) <|
  OkT.cons (ok_Ic_ne (off := 5) (by decide) cx (by decide +kernel)) <|
  OkT.cons (ok_iconst (n := 1) cx (by decide +kernel) rfl) <|
  OkT.cons (ok_retZ hr (by decide +kernel)) <|
  OkT.cons (ok_iinc (n := 1) rfl cx (by decide +kernel)) <|
  OkT.cons (ok_goto (off := (-36)) (by decide) cx (by decide +kernel)) <|
  OkT.cons (ok_fg [0, 1, 2, 3] (ok_iconst (n := 0) cx (by decide +kernel) rfl)) <|
  OkT.cons (ok_retZ hr (by decide +kernel)) <|
  OkT.nil⟩
def T_X5_isHumming (ex : Ex) : Tb := [(0, oIld 1 1), (1, oCallS ex 45 1), (4, oAld 0 1), (5, oGetI 3 11), (8, oIc_lt 15), (11, pS (fPush (.int 1)) 1), (12, oGoto 16), (15, oFg [0, 1] (pS (fPush (.int 0)) 1)), (16, oFg [0, 1] (oRetZ))]
set_option maxRecDepth 20000 in
theorem ta_X5_isHumming : TabOk MIS T_X5_isHumming mi_X5_isHumming := ⟨by decide +kernel, fun l d ex hex p e R s m args below meth c cells slots ad D cI cZ A cx hR hA hr =>
  OkT.cons (ok_iload_n (kn := 1) rfl cx (by decide +kernel)) <|
  OkT.cons (ok_callS hex rfl ca_RX5_71 hR hA cx (by decide +kernel)) <|
  OkT.cons (ok_aload_n (kn := 0) rfl cx (by decide +kernel)) <|
  OkT.cons (ok_getI fg_RX5_37 (by decide) rfl cx (by decide +kernel)) <|
  OkT.cons (ok_Ic_lt (off := 7) (by decide) cx (by decide +kernel)) <|
  OkT.cons (ok_iconst (n := 1) cx (by decide +kernel) rfl) <|
  OkT.cons (ok_goto (off := 4) (by decide) cx (by decide +kernel)) <|
  OkT.cons (ok_fg [0, 1] (ok_iconst (n := 0) cx (by decide +kernel) rfl)) <|
  OkT.cons (ok_fg [0, 1] (ok_retZ hr (by decide +kernel))) <|
  OkT.nil⟩
def T_X5_knows (ex : Ex) : Tb := [(0, oIld 1 1), (1, oIst 2 1), (2, pS (fPush (.int 0)) 1), (3, oIst 3 1), (4, oFg [1] (oIld 3 1)), (5, pS (fPush (.int 5)) 1), (6, oIc_ge 37), (9, oIld 2 1), (10, oIf_le 37), (13, oAld 0 1), (14, oIld 2 1), (15, oCallS ex 40 1), (18, oCallV ex 59 1 3), (21, oIf_ne 26), (24, pS (fPush (.int 0)) 1), (25, oRetZ), (26, oFg [1] (oIld 2 1)), (27, oCallS ex 41 1), (30, oIst 2 1), (31, oInc 3 1), (34, oGoto 4), (37, oFg [0, 1, 2, 3] (pS (fPush (.int 1)) 1)), (38, oRetZ)]
set_option maxRecDepth 20000 in
theorem ta_X5_knows : TabOk MIS T_X5_knows mi_X5_knows := ⟨by decide +kernel, fun l d ex hex p e R s m args below meth c cells slots ad D cI cZ A cx hR hA hr =>
  OkT.cons (ok_iload_n (kn := 1) rfl cx (by decide +kernel)) <|
  OkT.cons (ok_istore_n (kn := 2) rfl cx (by decide +kernel)) <|
  OkT.cons (ok_iconst (n := 0) cx (by decide +kernel) rfl) <|
  OkT.cons (ok_istore_n (kn := 3) rfl cx (by decide +kernel)) <|
  OkT.cons (ok_fg [1] (ok_iload_n (kn := 3) rfl cx (by decide +kernel))) <|
  OkT.cons (ok_iconst (n := 5) cx (by decide +kernel) rfl) <|
  OkT.cons (ok_Ic_ge (off := 31) (by decide) cx (by decide +kernel)) <|
  OkT.cons (ok_iload_n (kn := 2) rfl cx (by decide +kernel)) <|
  OkT.cons (ok_If_le (off := 27) (by decide) cx (by decide +kernel)) <|
  OkT.cons (ok_aload_n (kn := 0) rfl cx (by decide +kernel)) <|
  OkT.cons (ok_iload_n (kn := 2) rfl cx (by decide +kernel)) <|
  OkT.cons (ok_callS hex rfl ca_RX5_76 hR hA cx (by decide +kernel)) <|
  OkT.cons (ok_callV hex rfl rfl (by decide) ca_RX5_79 hR hA cx (by decide +kernel)) <|
  OkT.cons (ok_If_ne (off := 5) (by decide) cx (by decide +kernel)) <|
  OkT.cons (ok_iconst (n := 0) cx (by decide +kernel) rfl) <|
  OkT.cons (ok_retZ hr (by decide +kernel)) <|
  OkT.cons (ok_fg [1] (ok_iload_n (kn := 2) rfl cx (by decide +kernel))) <|
  OkT.cons (ok_callS hex rfl ca_RX5_83 hR hA cx (by decide +kernel)) <|
  OkT.cons (ok_istore_n (kn := 2) rfl cx (by decide +kernel)) <|
  OkT.cons (ok_iinc (n := 1) rfl cx (by decide +kernel)) <|
  OkT.cons (ok_goto (off := (-30)) (by decide) cx (by decide +kernel)) <|
  OkT.cons (ok_fg [0, 1, 2, 3] (ok_iconst (n := 1) cx (by decide +kernel) rfl)) <|
  OkT.cons (ok_retZ hr (by decide +kernel)) <|
  OkT.nil⟩
def T_X5_worksOf (ex : Ex) : Tb := [(0, pS (fPush (.int 0)) 1), (1, oIst 2 1), (2, oIld 1 1), (3, oIst 3 1), (4, pS (fPush (.int 0)) 1), (5, oIst 4 2), (7, oFg [1, 5] (oIld 4 2)), (9, pS (fPush (.int 5)) 1), (10, oIc_ge 62), (13, oIld 3 1), (14, oIf_le 62), (17, oIld 3 1), (18, oCallS ex 40 1), (21, oIst 5 2), (23, oIld 2 1), (24, pS (fPush (.int 1)) 1), (25, oAld 0 1), (26, oGetA 3 1), (29, oIld 5 2), (31, oCallS ex 133 2), (34, pS (fB (fun x y => x <<< (y &&& 31))) 1), (35, pS (fB (fun x y => x ||| y)) 1), (36, oIst 2 1), (37, oAld 0 1), (38, oGetA 3 2), (41, oIld 5 2), (43, oCallS ex 133 2), (46, oIf_ne 51), (49, oIld 2 1), (50, oRetI), (51, oFg [1, 5] (oIld 3 1)), (52, oCallS ex 41 1), (55, oIst 3 1), (56, oInc 4 1), (59, oGoto 7), (62, oFg [0, 1, 3, 4, 5] (oIld 2 1)), (63, oRetI)]
set_option maxRecDepth 20000 in
theorem ta_X5_worksOf : TabOk MIS T_X5_worksOf mi_X5_worksOf := ⟨by decide +kernel, fun l d ex hex p e R s m args below meth c cells slots ad D cI cZ A cx hR hA hr =>
  OkT.cons (ok_iconst (n := 0) cx (by decide +kernel) rfl) <|
  OkT.cons (ok_istore_n (kn := 2) rfl cx (by decide +kernel)) <|
  OkT.cons (ok_iload_n (kn := 1) rfl cx (by decide +kernel)) <|
  OkT.cons (ok_istore_n (kn := 3) rfl cx (by decide +kernel)) <|
  OkT.cons (ok_iconst (n := 0) cx (by decide +kernel) rfl) <|
  OkT.cons (ok_istore cx (by decide +kernel)) <|
  OkT.cons (ok_fg [1, 5] (ok_iload cx (by decide +kernel))) <|
  OkT.cons (ok_iconst (n := 5) cx (by decide +kernel) rfl) <|
  OkT.cons (ok_Ic_ge (off := 52) (by decide) cx (by decide +kernel)) <|
  OkT.cons (ok_iload_n (kn := 3) rfl cx (by decide +kernel)) <|
  OkT.cons (ok_If_le (off := 48) (by decide) cx (by decide +kernel)) <|
  OkT.cons (ok_iload_n (kn := 3) rfl cx (by decide +kernel)) <|
  OkT.cons (ok_callS hex rfl ca_RX5_76 hR hA cx (by decide +kernel)) <|
  OkT.cons (ok_istore cx (by decide +kernel)) <|
  OkT.cons (ok_iload_n (kn := 2) rfl cx (by decide +kernel)) <|
  OkT.cons (ok_iconst (n := 1) cx (by decide +kernel) rfl) <|
  OkT.cons (ok_aload_n (kn := 0) rfl cx (by decide +kernel)) <|
  OkT.cons (ok_getA (k := 0) fg_RX5_9 (by decide) rfl cx (by decide +kernel)) <|
  OkT.cons (ok_iload cx (by decide +kernel)) <|
  OkT.cons (ok_callN hex rfl ca_RX5_59 hR hA cx (by decide +kernel)) <|
  OkT.cons (ok_ishl cx (by decide +kernel)) <|
  OkT.cons (ok_ior cx (by decide +kernel)) <|
  OkT.cons (ok_istore_n (kn := 2) rfl cx (by decide +kernel)) <|
  OkT.cons (ok_aload_n (kn := 0) rfl cx (by decide +kernel)) <|
  OkT.cons (ok_getA (k := 1) fg_RX5_15 (by decide) rfl cx (by decide +kernel)) <|
  OkT.cons (ok_iload cx (by decide +kernel)) <|
  OkT.cons (ok_callN hex rfl ca_RX5_59 hR hA cx (by decide +kernel)) <|
  OkT.cons (ok_If_ne (off := 5) (by decide) cx (by decide +kernel)) <|
  OkT.cons (ok_iload_n (kn := 2) rfl cx (by decide +kernel)) <|
  OkT.cons (ok_retI hr (by decide +kernel)) <|
  OkT.cons (ok_fg [1, 5] (ok_iload_n (kn := 3) rfl cx (by decide +kernel))) <|
  OkT.cons (ok_callS hex rfl ca_RX5_83 hR hA cx (by decide +kernel)) <|
  OkT.cons (ok_istore_n (kn := 3) rfl cx (by decide +kernel)) <|
  OkT.cons (ok_iinc (n := 1) rfl cx (by decide +kernel)) <|
  OkT.cons (ok_goto (off := (-52)) (by decide) cx (by decide +kernel)) <|
  OkT.cons (ok_fg [0, 1, 3, 4, 5] (ok_iload_n (kn := 2) rfl cx (by decide +kernel))) <|
  OkT.cons (ok_retI hr (by decide +kernel)) <|
  OkT.nil⟩
def T_X5_after (ex : Ex) : Tb := [(0, oIld 3 1), (1, pS (fPush (.int 5)) 1), (2, oIc_ge 51), (5, oAld 0 1), (6, oIld 3 1), (7, oCallV ex 59 1 3), (10, oIf_eq 33), (13, oIld 1 1), (14, oCallS ex 38 1), (17, oIf_ne 33), (20, oAld 0 1), (21, oIld 2 1), (22, oIld 3 1), (23, oCallV ex 71 2 3), (26, oIf_eq 33), (29, pS (fPush (.int 1)) 1), (30, oGoto 34), (33, oFg [0, 2, 4, 5] (pS (fPush (.int 0)) 1)), (34, oFg [0, 2, 4, 5] (oIst 4 2)), (36, oIld 4 2), (38, oIf_eq 49), (41, oIld 1 1), (42, oIld 3 1), (43, oCallS ex 39 2), (46, oGoto 50), (49, oFg [0, 1, 2, 3, 4, 5] (pS (fPush (.int (-1))) 1)), (50, oFg [0, 1, 2, 3, 4, 5] (oRetI)), (51, oFg [4, 5] (oIld 3 1)), (52, pS (fPush (.int 5)) 1), (53, oIc_ne 81), (56, oIld 1 1), (57, oIf_le 79), (60, oAld 0 1), (61, oIld 2 1), (62, oIld 1 1), (63, oCallS ex 40 1), (66, oCallV ex 71 2 3), (69, oIf_eq 79), (72, oIld 1 1), (73, oCallS ex 41 1), (76, oGoto 80), (79, oFg [0, 1, 2, 3, 4, 5] (pS (fPush (.int (-1))) 1)), (80, oFg [0, 1, 2, 3, 4, 5] (oRetI)), (81, oFg [4, 5] (oIld 3 1)), (82, pS (fPush (.int 6)) 2), (84, oIc_ne 141), (87, oIld 1 1), (88, oCallS ex 41 1), (91, oIst 4 2), (93, oIld 4 2), (95, oIf_le 124), (98, oAld 0 1), (99, oIld 2 1), (100, pS (fPush (.int 1)) 1), (101, oIld 1 1), (102, oCallS ex 40 1), (105, pS (fB (fun x y => x <<< (y &&& 31))) 1), (106, pS (fPush (.int 1)) 1), (107, oIld 4 2), (109, oCallS ex 40 1), (112, pS (fB (fun x y => x <<< (y &&& 31))) 1), (113, pS (fB (fun x y => x ||| y)) 1), (114, oCallV ex 72 2 3), (117, oIf_eq 124), (120, pS (fPush (.int 1)) 1), (121, oGoto 125), (124, oFg [0, 2, 3, 4, 5] (pS (fPush (.int 0)) 1)), (125, oFg [0, 2, 3, 4, 5] (oIst 5 2)), (127, oIld 5 2), (129, oIf_eq 139), (132, oIld 1 1), (133, oCallS ex 44 1), (136, oGoto 140), (139, oFg [0, 1, 2, 3, 4, 5] (pS (fPush (.int (-1))) 1)), (140, oFg [0, 1, 2, 3, 4, 5] (oRetI)), (141, oFg [0, 2, 3, 4, 5] (oIld 1 1)), (142, oRetI)]
set_option maxRecDepth 20000 in
theorem ta_X5_after : TabOk MIS T_X5_after mi_X5_after := ⟨by decide +kernel, fun l d ex hex p e R s m args below meth c cells slots ad D cI cZ A cx hR hA hr =>
  OkT.cons (ok_iload_n (kn := 3) rfl cx (by decide +kernel)) <|
  OkT.cons (ok_iconst (n := 5) cx (by decide +kernel) rfl) <|
  OkT.cons (ok_Ic_ge (off := 49) (by decide) cx (by decide +kernel)) <|
  OkT.cons (ok_aload_n (kn := 0) rfl cx (by decide +kernel)) <|
  OkT.cons (ok_iload_n (kn := 3) rfl cx (by decide +kernel)) <|
  OkT.cons (ok_callV hex rfl rfl (by decide) ca_RX5_79 hR hA cx (by decide +kernel)) <|
  OkT.cons (ok_If_eq (off := 23) (by decide) cx (by decide +kernel)) <|
  OkT.cons (ok_iload_n (kn := 1) rfl cx (by decide +kernel)) <|
  OkT.cons (ok_callS hex rfl ca_RX5_86 hR hA cx (by decide +kernel)) <|
  OkT.cons (ok_If_ne (off := 16) (by decide) cx (by decide +kernel)) <|
  OkT.cons (ok_aload_n (kn := 0) rfl cx (by decide +kernel)) <|
  OkT.cons (ok_iload_n (kn := 2) rfl cx (by decide +kernel)) <|
  OkT.cons (ok_iload_n (kn := 3) rfl cx (by decide +kernel)) <|
  OkT.cons (ok_callV hex rfl rfl (by decide) ca_RX5_89 hR hA cx (by decide +kernel)) <|
  OkT.cons (ok_If_eq (off := 7) (by decide) cx (by decide +kernel)) <|
  OkT.cons (ok_iconst (n := 1) cx (by decide +kernel) rfl) <|
  OkT.cons (ok_goto (off := 4) (by decide) cx (by decide +kernel)) <|
  OkT.cons (ok_fg [0, 2, 4, 5] (ok_iconst (n := 0) cx (by decide +kernel) rfl)) <|
  OkT.cons (ok_fg [0, 2, 4, 5] (ok_istore cx (by decide +kernel))) <|
  OkT.cons (ok_iload cx (by decide +kernel)) <|
  OkT.cons (ok_If_eq (off := 11) (by decide) cx (by decide +kernel)) <|
  OkT.cons (ok_iload_n (kn := 1) rfl cx (by decide +kernel)) <|
  OkT.cons (ok_iload_n (kn := 3) rfl cx (by decide +kernel)) <|
  OkT.cons (ok_callS hex rfl ca_RX5_92 hR hA cx (by decide +kernel)) <|
  OkT.cons (ok_goto (off := 4) (by decide) cx (by decide +kernel)) <|
  OkT.cons (ok_fg [0, 1, 2, 3, 4, 5] (ok_iconst (n := (-1)) cx (by decide +kernel) rfl)) <|
  OkT.cons (ok_fg [0, 1, 2, 3, 4, 5] (ok_retI hr (by decide +kernel))) <|
  OkT.cons (ok_fg [4, 5] (ok_iload_n (kn := 3) rfl cx (by decide +kernel))) <|
  OkT.cons (ok_iconst (n := 5) cx (by decide +kernel) rfl) <|
  OkT.cons (ok_Ic_ne (off := 28) (by decide) cx (by decide +kernel)) <|
  OkT.cons (ok_iload_n (kn := 1) rfl cx (by decide +kernel)) <|
  OkT.cons (ok_If_le (off := 22) (by decide) cx (by decide +kernel)) <|
  OkT.cons (ok_aload_n (kn := 0) rfl cx (by decide +kernel)) <|
  OkT.cons (ok_iload_n (kn := 2) rfl cx (by decide +kernel)) <|
  OkT.cons (ok_iload_n (kn := 1) rfl cx (by decide +kernel)) <|
  OkT.cons (ok_callS hex rfl ca_RX5_76 hR hA cx (by decide +kernel)) <|
  OkT.cons (ok_callV hex rfl rfl (by decide) ca_RX5_89 hR hA cx (by decide +kernel)) <|
  OkT.cons (ok_If_eq (off := 10) (by decide) cx (by decide +kernel)) <|
  OkT.cons (ok_iload_n (kn := 1) rfl cx (by decide +kernel)) <|
  OkT.cons (ok_callS hex rfl ca_RX5_83 hR hA cx (by decide +kernel)) <|
  OkT.cons (ok_goto (off := 4) (by decide) cx (by decide +kernel)) <|
  OkT.cons (ok_fg [0, 1, 2, 3, 4, 5] (ok_iconst (n := (-1)) cx (by decide +kernel) rfl)) <|
  OkT.cons (ok_fg [0, 1, 2, 3, 4, 5] (ok_retI hr (by decide +kernel))) <|
  OkT.cons (ok_fg [4, 5] (ok_iload_n (kn := 3) rfl cx (by decide +kernel))) <|
  OkT.cons (ok_bipush (n := 6) cx (by decide +kernel) rfl) <|
  OkT.cons (ok_Ic_ne (off := 57) (by decide) cx (by decide +kernel)) <|
  OkT.cons (ok_iload_n (kn := 1) rfl cx (by decide +kernel)) <|
  OkT.cons (ok_callS hex rfl ca_RX5_83 hR hA cx (by decide +kernel)) <|
  OkT.cons (ok_istore cx (by decide +kernel)) <|
  OkT.cons (ok_iload cx (by decide +kernel)) <|
  OkT.cons (ok_If_le (off := 29) (by decide) cx (by decide +kernel)) <|
  OkT.cons (ok_aload_n (kn := 0) rfl cx (by decide +kernel)) <|
  OkT.cons (ok_iload_n (kn := 2) rfl cx (by decide +kernel)) <|
  OkT.cons (ok_iconst (n := 1) cx (by decide +kernel) rfl) <|
  OkT.cons (ok_iload_n (kn := 1) rfl cx (by decide +kernel)) <|
  OkT.cons (ok_callS hex rfl ca_RX5_76 hR hA cx (by decide +kernel)) <|
  OkT.cons (ok_ishl cx (by decide +kernel)) <|
  OkT.cons (ok_iconst (n := 1) cx (by decide +kernel) rfl) <|
  OkT.cons (ok_iload cx (by decide +kernel)) <|
  OkT.cons (ok_callS hex rfl ca_RX5_76 hR hA cx (by decide +kernel)) <|
  OkT.cons (ok_ishl cx (by decide +kernel)) <|
  OkT.cons (ok_ior cx (by decide +kernel)) <|
  OkT.cons (ok_callV hex rfl rfl (by decide) ca_RX5_67 hR hA cx (by decide +kernel)) <|
  OkT.cons (ok_If_eq (off := 7) (by decide) cx (by decide +kernel)) <|
  OkT.cons (ok_iconst (n := 1) cx (by decide +kernel) rfl) <|
  OkT.cons (ok_goto (off := 4) (by decide) cx (by decide +kernel)) <|
  OkT.cons (ok_fg [0, 2, 3, 4, 5] (ok_iconst (n := 0) cx (by decide +kernel) rfl)) <|
  OkT.cons (ok_fg [0, 2, 3, 4, 5] (ok_istore cx (by decide +kernel))) <|
  OkT.cons (ok_iload cx (by decide +kernel)) <|
  OkT.cons (ok_If_eq (off := 10) (by decide) cx (by decide +kernel)) <|
  OkT.cons (ok_iload_n (kn := 1) rfl cx (by decide +kernel)) <|
  OkT.cons (ok_callS hex rfl ca_RX5_96 hR hA cx (by decide +kernel)) <|
  OkT.cons (ok_goto (off := 4) (by decide) cx (by decide +kernel)) <|
  OkT.cons (ok_fg [0, 1, 2, 3, 4, 5] (ok_iconst (n := (-1)) cx (by decide +kernel) rfl)) <|
  OkT.cons (ok_fg [0, 1, 2, 3, 4, 5] (ok_retI hr (by decide +kernel))) <|
  OkT.cons (ok_fg [0, 2, 3, 4, 5] (ok_iload_n (kn := 1) rfl cx (by decide +kernel))) <|
  OkT.cons (ok_retI hr (by decide +kernel)) <|
  OkT.nil⟩
def T_X5_costOf (ex : Ex) : Tb := [(0, oIld 2 1), (1, pS (fPush (.int 5)) 1), (2, oIc_ge 11), (5, oAld 0 1), (6, oIld 2 1), (7, oCallV ex 65 1 3), (10, oRetI), (11, oIld 2 1), (12, pS (fPush (.int 5)) 1), (13, oIc_ne 25), (16, oAld 0 1), (17, oIld 1 1), (18, oCallS ex 40 1), (21, oCallV ex 66 1 3), (24, oRetI), (25, oFg [1] (oIld 2 1)), (26, pS (fPush (.int 6)) 2), (28, oIc_ne 38), (31, oAld 0 1), (32, oGetI 3 9), (35, oGoto 39), (38, oFg [0, 1, 2] (pS (fPush (.int 0)) 1)), (39, oFg [0, 1, 2] (oRetI))]
set_option maxRecDepth 20000 in
theorem ta_X5_costOf : TabOk MIS T_X5_costOf mi_X5_costOf := ⟨by decide +kernel, fun l d ex hex p e R s m args below meth c cells slots ad D cI cZ A cx hR hA hr =>
  OkT.cons (ok_iload_n (kn := 2) rfl cx (by decide +kernel)) <|
  OkT.cons (ok_iconst (n := 5) cx (by decide +kernel) rfl) <|
  OkT.cons (ok_Ic_ge (off := 9) (by decide) cx (by decide +kernel)) <|
  OkT.cons (ok_aload_n (kn := 0) rfl cx (by decide +kernel)) <|
  OkT.cons (ok_iload_n (kn := 2) rfl cx (by decide +kernel)) <|
  OkT.cons (ok_callV hex rfl rfl (by decide) ca_RX5_99 hR hA cx (by decide +kernel)) <|
  OkT.cons (ok_retI hr (by decide +kernel)) <|
  OkT.cons (ok_iload_n (kn := 2) rfl cx (by decide +kernel)) <|
  OkT.cons (ok_iconst (n := 5) cx (by decide +kernel) rfl) <|
  OkT.cons (ok_Ic_ne (off := 12) (by decide) cx (by decide +kernel)) <|
  OkT.cons (ok_aload_n (kn := 0) rfl cx (by decide +kernel)) <|
  OkT.cons (ok_iload_n (kn := 1) rfl cx (by decide +kernel)) <|
  OkT.cons (ok_callS hex rfl ca_RX5_76 hR hA cx (by decide +kernel)) <|
  OkT.cons (ok_callV hex rfl rfl (by decide) ca_RX5_102 hR hA cx (by decide +kernel)) <|
  OkT.cons (ok_retI hr (by decide +kernel)) <|
  OkT.cons (ok_fg [1] (ok_iload_n (kn := 2) rfl cx (by decide +kernel))) <|
  OkT.cons (ok_bipush (n := 6) cx (by decide +kernel) rfl) <|
  OkT.cons (ok_Ic_ne (off := 10) (by decide) cx (by decide +kernel)) <|
  OkT.cons (ok_aload_n (kn := 0) rfl cx (by decide +kernel)) <|
  OkT.cons (ok_getI fg_RX5_30 (by decide) rfl cx (by decide +kernel)) <|
  OkT.cons (ok_goto (off := 4) (by decide) cx (by decide +kernel)) <|
  OkT.cons (ok_fg [0, 1, 2] (ok_iconst (n := 0) cx (by decide +kernel) rfl)) <|
  OkT.cons (ok_fg [0, 1, 2] (ok_retI hr (by decide +kernel))) <|
  OkT.nil⟩
def T_X5_hasWay (ex : Ex) : Tb := [(0, oIld 1 1), (1, oIst 4 2), (3, pS (fPush (.int 0)) 1), (4, oIst 5 2), (6, oFg [1, 6, 7] (oIld 5 2)), (8, pS (fPush (.int 5)) 1), (9, oIc_ge 43), (12, oIld 4 2), (14, oIf_le 43), (17, oIld 3 1), (18, oIld 4 2), (20, oCallS ex 40 1), (23, pS (fB (fun x y => x >>> (y &&& 31))) 1), (24, pS (fPush (.int 1)) 1), (25, pS (fB (fun x y => x &&& y)) 1), (26, pS (fPush (.int 1)) 1), (27, oIc_ne 43), (30, oIld 4 2), (32, oCallS ex 41 1), (35, oIst 4 2), (37, oInc 5 1), (40, oGoto 6), (43, oFg [1, 5, 6, 7] (pS (fPush (.int 5)) 1)), (44, oIld 4 2), (46, oCallS ex 45 1), (49, pS (fB (fun x y => x - y)) 1), (50, oIst 5 2), (52, pS (fPush (.int 0)) 1), (53, oIst 6 2), (55, oFg [1, 7] (oIld 6 2)), (57, pS (fPush (.int 1)) 1), (58, oAld 0 1), (59, oGetI 3 6), (62, pS (fB (fun x y => x <<< (y &&& 31))) 1), (63, oIc_ge 117), (66, oIld 6 2), (68, oIld 3 1), (69, pS (fPush (.int (-1))) 1), (70, pS (fB (fun x y => x ^^^ y)) 1), (71, pS (fB (fun x y => x &&& y)) 1), (72, oIf_ne 89), (75, oIld 6 2), (77, oCallS ex 198 1), (80, oIld 5 2), (82, oIc_gt 89), (85, pS (fPush (.int 1)) 1), (86, oGoto 90), (89, oFg [1, 7] (pS (fPush (.int 0)) 1)), (90, oFg [1, 7] (oIst 7 2)), (92, oIld 7 2), (94, oIf_eq 111), (97, oAld 0 1), (98, oIld 6 2), (100, oIld 4 2), (102, oCallV ex 80 2 3), (105, oIld 2 1), (106, oIc_ne 111), (109, pS (fPush (.int 1)) 1), (110, oRetZ), (111, oFg [1, 7] (oInc 6 1)), (114, oGoto 55), (117, oFg [0, 1, 2, 3, 4, 5, 6, 7] (pS (fPush (.int 0)) 1)), (118, oRetZ)]
set_option maxRecDepth 20000 in
theorem ta_X5_hasWay : TabOk MIS T_X5_hasWay mi_X5_hasWay := ⟨by decide +kernel, fun l d ex hex p e R s m args below meth c cells slots ad D cI cZ A cx hR hA hr =>
  OkT.cons (ok_iload_n (kn := 1) rfl cx (by decide +kernel)) <|
  OkT.cons (ok_istore cx (by decide +kernel)) <|
  OkT.cons (ok_iconst (n := 0) cx (by decide +kernel) rfl) <|
  OkT.cons (ok_istore cx (by decide +kernel)) <|
  OkT.cons (ok_fg [1, 6, 7] (ok_iload cx (by decide +kernel))) <|
  OkT.cons (ok_iconst (n := 5) cx (by decide +kernel) rfl) <|
  OkT.cons (ok_Ic_ge (off := 34) (by decide) cx (by decide +kernel)) <|
  OkT.cons (ok_iload cx (by decide +kernel)) <|
  OkT.cons (ok_If_le (off := 29) (by decide) cx (by decide +kernel)) <|
  OkT.cons (ok_iload_n (kn := 3) rfl cx (by decide +kernel)) <|
  OkT.cons (ok_iload cx (by decide +kernel)) <|
  OkT.cons (ok_callS hex rfl ca_RX5_76 hR hA cx (by decide +kernel)) <|
  OkT.cons (ok_ishr cx (by decide +kernel)) <|
  OkT.cons (ok_iconst (n := 1) cx (by decide +kernel) rfl) <|
  OkT.cons (ok_iand cx (by decide +kernel)) <|
  OkT.cons (ok_iconst (n := 1) cx (by decide +kernel) rfl) <|
  OkT.cons (ok_Ic_ne (off := 16) (by decide) cx (by decide +kernel)) <|
  OkT.cons (ok_iload cx (by decide +kernel)) <|
  OkT.cons (ok_callS hex rfl ca_RX5_83 hR hA cx (by decide +kernel)) <|
  OkT.cons (ok_istore cx (by decide +kernel)) <|
  OkT.cons (ok_iinc (n := 1) rfl cx (by decide +kernel)) <|
  OkT.cons (ok_goto (off := (-34)) (by decide) cx (by decide +kernel)) <|
  OkT.cons (ok_fg [1, 5, 6, 7] (ok_iconst (n := 5) cx (by decide +kernel) rfl)) <|
  OkT.cons (ok_iload cx (by decide +kernel)) <|
  OkT.cons (ok_callS hex rfl ca_RX5_71 hR hA cx (by decide +kernel)) <|
  OkT.cons (ok_isub cx (by decide +kernel)) <|
  OkT.cons (ok_istore cx (by decide +kernel)) <|
  OkT.cons (ok_iconst (n := 0) cx (by decide +kernel) rfl) <|
  OkT.cons (ok_istore cx (by decide +kernel)) <|
  OkT.cons (ok_fg [1, 7] (ok_iload cx (by decide +kernel))) <|
  OkT.cons (ok_iconst (n := 1) cx (by decide +kernel) rfl) <|
  OkT.cons (ok_aload_n (kn := 0) rfl cx (by decide +kernel)) <|
  OkT.cons (ok_getI fg_RX5_40 (by decide) rfl cx (by decide +kernel)) <|
  OkT.cons (ok_ishl cx (by decide +kernel)) <|
  OkT.cons (ok_Ic_ge (off := 54) (by decide) cx (by decide +kernel)) <|
  OkT.cons (ok_iload cx (by decide +kernel)) <|
  OkT.cons (ok_iload_n (kn := 3) rfl cx (by decide +kernel)) <|
  OkT.cons (ok_iconst (n := (-1)) cx (by decide +kernel) rfl) <|
  OkT.cons (ok_ixor cx (by decide +kernel)) <|
  OkT.cons (ok_iand cx (by decide +kernel)) <|
  OkT.cons (ok_If_ne (off := 17) (by decide) cx (by decide +kernel)) <|
  OkT.cons (ok_iload cx (by decide +kernel)) <|
  OkT.cons (ok_callS hex rfl ca_RX5_105 hR hA cx (by decide +kernel)) <|
  OkT.cons (ok_iload cx (by decide +kernel)) <|
  OkT.cons (ok_Ic_gt (off := 7) (by decide) cx (by decide +kernel)) <|
  OkT.cons (ok_iconst (n := 1) cx (by decide +kernel) rfl) <|
  OkT.cons (ok_goto (off := 4) (by decide) cx (by decide +kernel)) <|
  OkT.cons (ok_fg [1, 7] (ok_iconst (n := 0) cx (by decide +kernel) rfl)) <|
  OkT.cons (ok_fg [1, 7] (ok_istore cx (by decide +kernel))) <|
  OkT.cons (ok_iload cx (by decide +kernel)) <|
  OkT.cons (ok_If_eq (off := 17) (by decide) cx (by decide +kernel)) <|
  OkT.cons (ok_aload_n (kn := 0) rfl cx (by decide +kernel)) <|
  OkT.cons (ok_iload cx (by decide +kernel)) <|
  OkT.cons (ok_iload cx (by decide +kernel)) <|
  OkT.cons (ok_callV hex rfl rfl (by decide) ca_RX5_110 hR hA cx (by decide +kernel)) <|
  OkT.cons (ok_iload_n (kn := 2) rfl cx (by decide +kernel)) <|
  OkT.cons (ok_Ic_ne (off := 5) (by decide) cx (by decide +kernel)) <|
  OkT.cons (ok_iconst (n := 1) cx (by decide +kernel) rfl) <|
  OkT.cons (ok_retZ hr (by decide +kernel)) <|
  OkT.cons (ok_fg [1, 7] (ok_iinc (n := 1) rfl cx (by decide +kernel))) <|
  OkT.cons (ok_goto (off := (-59)) (by decide) cx (by decide +kernel)) <|
  OkT.cons (ok_fg [0, 1, 2, 3, 4, 5, 6, 7] (ok_iconst (n := 0) cx (by decide +kernel) rfl)) <|
  OkT.cons (ok_retZ hr (by decide +kernel)) <|
  OkT.nil⟩
def T_X5_fewestFor (ex : Ex) : Tb := [(0, pS (fPush (.int 0)) 1), (1, oIst 2 1), (2, oFg [3] (oIld 2 1)), (3, oAld 0 1), (4, oGetI 3 6), (7, oIc_gt 54), (10, pS (fPush (.int 0)) 1), (11, oIst 3 1), (12, oIld 3 1), (13, pS (fPush (.int 1)) 1), (14, oAld 0 1), (15, oGetI 3 6), (18, pS (fB (fun x y => x <<< (y &&& 31))) 1), (19, oIc_ge 48), (22, oIld 3 1), (23, oCallS ex 198 1), (26, oIld 2 1), (27, oIc_ne 42), (30, oAld 0 1), (31, oIld 3 1), (32, pS (fPush (.int 0)) 1), (33, oCallV ex 80 2 3), (36, oIld 1 1), (37, oIc_ne 42), (40, oIld 3 1), (41, oRetI), (42, oInc 3 1), (45, oGoto 12), (48, oFg [3] (oInc 2 1)), (51, oGoto 2), (54, oFg [0, 1, 2, 3] (pS (fPush (.int (-1))) 1)), (55, oRetI)]
set_option maxRecDepth 20000 in
theorem ta_X5_fewestFor : TabOk MIS T_X5_fewestFor mi_X5_fewestFor := ⟨by decide +kernel, fun l d ex hex p e R s m args below meth c cells slots ad D cI cZ A cx hR hA hr =>
  OkT.cons (ok_iconst (n := 0) cx (by decide +kernel) rfl) <|
  OkT.cons (ok_istore_n (kn := 2) rfl cx (by decide +kernel)) <|
  OkT.cons (ok_fg [3] (ok_iload_n (kn := 2) rfl cx (by decide +kernel))) <|
  OkT.cons (ok_aload_n (kn := 0) rfl cx (by decide +kernel)) <|
  OkT.cons (ok_getI fg_RX5_40 (by decide) rfl cx (by decide +kernel)) <|
  OkT.cons (ok_Ic_gt (off := 47) (by decide) cx (by decide +kernel)) <|
  OkT.cons (ok_iconst (n := 0) cx (by decide +kernel) rfl) <|
  OkT.cons (ok_istore_n (kn := 3) rfl cx (by decide +kernel)) <|
  OkT.cons (ok_iload_n (kn := 3) rfl cx (by decide +kernel)) <|
  OkT.cons (ok_iconst (n := 1) cx (by decide +kernel) rfl) <|
  OkT.cons (ok_aload_n (kn := 0) rfl cx (by decide +kernel)) <|
  OkT.cons (ok_getI fg_RX5_40 (by decide) rfl cx (by decide +kernel)) <|
  OkT.cons (ok_ishl cx (by decide +kernel)) <|
  OkT.cons (ok_Ic_ge (off := 29) (by decide) cx (by decide +kernel)) <|
  OkT.cons (ok_iload_n (kn := 3) rfl cx (by decide +kernel)) <|
  OkT.cons (ok_callS hex rfl ca_RX5_105 hR hA cx (by decide +kernel)) <|
  OkT.cons (ok_iload_n (kn := 2) rfl cx (by decide +kernel)) <|
  OkT.cons (ok_Ic_ne (off := 15) (by decide) cx (by decide +kernel)) <|
  OkT.cons (ok_aload_n (kn := 0) rfl cx (by decide +kernel)) <|
  OkT.cons (ok_iload_n (kn := 3) rfl cx (by decide +kernel)) <|
  OkT.cons (ok_iconst (n := 0) cx (by decide +kernel) rfl) <|
  OkT.cons (ok_callV hex rfl rfl (by decide) ca_RX5_110 hR hA cx (by decide +kernel)) <|
  OkT.cons (ok_iload_n (kn := 1) rfl cx (by decide +kernel)) <|
  OkT.cons (ok_Ic_ne (off := 5) (by decide) cx (by decide +kernel)) <|
  OkT.cons (ok_iload_n (kn := 3) rfl cx (by decide +kernel)) <|
  OkT.cons (ok_retI hr (by decide +kernel)) <|
  OkT.cons (ok_iinc (n := 1) rfl cx (by decide +kernel)) <|
  OkT.cons (ok_goto (off := (-33)) (by decide) cx (by decide +kernel)) <|
  OkT.cons (ok_fg [3] (ok_iinc (n := 1) rfl cx (by decide +kernel))) <|
  OkT.cons (ok_goto (off := (-49)) (by decide) cx (by decide +kernel)) <|
  OkT.cons (ok_fg [0, 1, 2, 3] (ok_iconst (n := (-1)) cx (by decide +kernel) rfl)) <|
  OkT.cons (ok_retI hr (by decide +kernel)) <|
  OkT.nil⟩
def T_X5_worksOnBase (ex : Ex) : Tb := [(0, pS (fPush (.int 0)) 1), (1, oIst 3 1), (2, pS (fPush (.int 0)) 1), (3, oIst 4 2), (5, pS (fPush (.int 0)) 1), (6, oIst 5 2), (8, oIld 5 2), (10, oAld 0 1), (11, oGetI 3 6), (14, oIc_ge 63), (17, oIld 1 1), (18, oIld 5 2), (20, pS (fB (fun x y => x >>> (y &&& 31))) 1), (21, pS (fPush (.int 1)) 1), (22, pS (fB (fun x y => x &&& y)) 1), (23, pS (fPush (.int 1)) 1), (24, oIc_ne 57), (27, oIld 3 1), (28, pS (fPush (.int 1)) 1), (29, oAld 0 1), (30, oIld 5 2), (32, oCallV ex 63 1 3), (35, pS (fB (fun x y => x <<< (y &&& 31))) 1), (36, pS (fB (fun x y => x ||| y)) 1), (37, oIst 3 1), (38, oIld 4 2), (40, oAld 0 1), (41, oIld 5 2), (43, oCallV ex 64 1 3), (46, oIf_eq 53), (49, pS (fPush (.int 0)) 1), (50, oGoto 54), (53, oFg [4] (pS (fPush (.int 1)) 1)), (54, oFg [4] (pS (fB (fun x y => x + y)) 1)), (55, oIst 4 2), (57, oInc 5 1), (60, oGoto 8), (63, oFg [1, 5] (oIld 4 2)), (65, pS (fPush (.int 1)) 1), (66, oIc_le 71), (69, pS (fPush (.int (-1))) 1), (70, oRetI), (71, oFg [1, 5] (oIld 4 2)), (73, pS (fPush (.int 1)) 1), (74, oIc_ne 81), (77, oIld 3 1), (78, oGoto 88), (81, oFg [1, 4, 5] (oIld 3 1)), (82, oAld 0 1), (83, oIld 2 1), (84, oCallV ex 75 1 3), (87, pS (fB (fun x y => x ||| y)) 1), (88, oFg [0, 1, 2, 3, 4, 5] (oRetI))]
set_option maxRecDepth 20000 in
theorem ta_X5_worksOnBase : TabOk MIS T_X5_worksOnBase mi_X5_worksOnBase := ⟨by decide +kernel, fun l d ex hex p e R s m args below meth c cells slots ad D cI cZ A cx hR hA hr =>
  OkT.cons (ok_iconst (n := 0) cx (by decide +kernel) rfl) <|
  OkT.cons (ok_istore_n (kn := 3) rfl cx (by decide +kernel)) <|
  OkT.cons (ok_iconst (n := 0) cx (by decide +kernel) rfl) <|
  OkT.cons (ok_istore cx (by decide +kernel)) <|
  OkT.cons (ok_iconst (n := 0) cx (by decide +kernel) rfl) <|
  OkT.cons (ok_istore cx (by decide +kernel)) <|
  OkT.cons (ok_iload cx (by decide +kernel)) <|
  OkT.cons (ok_aload_n (kn := 0) rfl cx (by decide +kernel)) <|
  OkT.cons (ok_getI fg_RX5_40 (by decide) rfl cx (by decide +kernel)) <|
  OkT.cons (ok_Ic_ge (off := 49) (by decide) cx (by decide +kernel)) <|
  OkT.cons (ok_iload_n (kn := 1) rfl cx (by decide +kernel)) <|
  OkT.cons (ok_iload cx (by decide +kernel)) <|
  OkT.cons (ok_ishr cx (by decide +kernel)) <|
  OkT.cons (ok_iconst (n := 1) cx (by decide +kernel) rfl) <|
  OkT.cons (ok_iand cx (by decide +kernel)) <|
  OkT.cons (ok_iconst (n := 1) cx (by decide +kernel) rfl) <|
  OkT.cons (ok_Ic_ne (off := 33) (by decide) cx (by decide +kernel)) <|
  OkT.cons (ok_iload_n (kn := 3) rfl cx (by decide +kernel)) <|
  OkT.cons (ok_iconst (n := 1) cx (by decide +kernel) rfl) <|
  OkT.cons (ok_aload_n (kn := 0) rfl cx (by decide +kernel)) <|
  OkT.cons (ok_iload cx (by decide +kernel)) <|
  OkT.cons (ok_callV hex rfl rfl (by decide) ca_RX5_113 hR hA cx (by decide +kernel)) <|
  OkT.cons (ok_ishl cx (by decide +kernel)) <|
  OkT.cons (ok_ior cx (by decide +kernel)) <|
  OkT.cons (ok_istore_n (kn := 3) rfl cx (by decide +kernel)) <|
  OkT.cons (ok_iload cx (by decide +kernel)) <|
  OkT.cons (ok_aload_n (kn := 0) rfl cx (by decide +kernel)) <|
  OkT.cons (ok_iload cx (by decide +kernel)) <|
  OkT.cons (ok_callV hex rfl rfl (by decide) ca_RX5_116 hR hA cx (by decide +kernel)) <|
  OkT.cons (ok_If_eq (off := 7) (by decide) cx (by decide +kernel)) <|
  OkT.cons (ok_iconst (n := 0) cx (by decide +kernel) rfl) <|
  OkT.cons (ok_goto (off := 4) (by decide) cx (by decide +kernel)) <|
  OkT.cons (ok_fg [4] (ok_iconst (n := 1) cx (by decide +kernel) rfl)) <|
  OkT.cons (ok_fg [4] (ok_iadd cx (by decide +kernel))) <|
  OkT.cons (ok_istore cx (by decide +kernel)) <|
  OkT.cons (ok_iinc (n := 1) rfl cx (by decide +kernel)) <|
  OkT.cons (ok_goto (off := (-52)) (by decide) cx (by decide +kernel)) <|
  OkT.cons (ok_fg [1, 5] (ok_iload cx (by decide +kernel))) <|
  OkT.cons (ok_iconst (n := 1) cx (by decide +kernel) rfl) <|
  OkT.cons (ok_Ic_le (off := 5) (by decide) cx (by decide +kernel)) <|
  OkT.cons (ok_iconst (n := (-1)) cx (by decide +kernel) rfl) <|
  OkT.cons (ok_retI hr (by decide +kernel)) <|
  OkT.cons (ok_fg [1, 5] (ok_iload cx (by decide +kernel))) <|
  OkT.cons (ok_iconst (n := 1) cx (by decide +kernel) rfl) <|
  OkT.cons (ok_Ic_ne (off := 7) (by decide) cx (by decide +kernel)) <|
  OkT.cons (ok_iload_n (kn := 3) rfl cx (by decide +kernel)) <|
  OkT.cons (ok_goto (off := 10) (by decide) cx (by decide +kernel)) <|
  OkT.cons (ok_fg [1, 4, 5] (ok_iload_n (kn := 3) rfl cx (by decide +kernel))) <|
  OkT.cons (ok_aload_n (kn := 0) rfl cx (by decide +kernel)) <|
  OkT.cons (ok_iload_n (kn := 2) rfl cx (by decide +kernel)) <|
  OkT.cons (ok_callV hex rfl rfl (by decide) ca_RX5_119 hR hA cx (by decide +kernel)) <|
  OkT.cons (ok_ior cx (by decide +kernel)) <|
  OkT.cons (ok_fg [0, 1, 2, 3, 4, 5] (ok_retI hr (by decide +kernel))) <|
  OkT.nil⟩
def T_X6_costOf (ex : Ex) : Tb := [(0, oIld 0 1), (1, pS (fPush (.int 65536)) 2), (3, pS (fDv (fun x y => x / y)) 1), (4, oRetI)]
set_option maxRecDepth 20000 in
theorem ta_X6_costOf : TabOk MIS T_X6_costOf mi_X6_costOf := ⟨by decide +kernel, fun l d ex hex p e R s m args below meth c cells slots ad D cI cZ A cx hR hA hr =>
  OkT.cons (ok_iload_n (kn := 0) rfl cx (by decide +kernel)) <|
  OkT.cons (ok_ldc cx w_671 (by decide +kernel)) <|
  OkT.cons (ok_idiv cx (by decide +kernel)) <|
  OkT.cons (ok_retI hr (by decide +kernel)) <|
  OkT.nil⟩
def T_X6_firstOf (ex : Ex) : Tb := [(0, oIld 0 1), (1, pS (fPush (.int 65536)) 2), (3, pS (fDv (fun x y => x - x / y * y)) 1), (4, pS (fPush (.int 8)) 2), (6, oIc_ge 14), (9, pS (fPush (.int (-5))) 2), (11, oGoto 18), (14, oIld 0 1), (15, pS (fPush (.int 8)) 2), (17, pS (fDv (fun x y => x - x / y * y)) 1), (18, oFg [0] (oRetI))]
set_option maxRecDepth 20000 in
theorem ta_X6_firstOf : TabOk MIS T_X6_firstOf mi_X6_firstOf := ⟨by decide +kernel, fun l d ex hex p e R s m args below meth c cells slots ad D cI cZ A cx hR hA hr =>
  OkT.cons (ok_iload_n (kn := 0) rfl cx (by decide +kernel)) <|
  OkT.cons (ok_ldc cx w_671 (by decide +kernel)) <|
  OkT.cons (ok_irem cx (by decide +kernel)) <|
  OkT.cons (ok_bipush (n := 8) cx (by decide +kernel) rfl) <|
  OkT.cons (ok_Ic_ge (off := 8) (by decide) cx (by decide +kernel)) <|
  OkT.cons (ok_bipush (n := (-5)) cx (by decide +kernel) rfl) <|
  OkT.cons (ok_goto (off := 7) (by decide) cx (by decide +kernel)) <|
  OkT.cons (ok_iload_n (kn := 0) rfl cx (by decide +kernel)) <|
  OkT.cons (ok_bipush (n := 8) cx (by decide +kernel) rfl) <|
  OkT.cons (ok_irem cx (by decide +kernel)) <|
  OkT.cons (ok_fg [0] (ok_retI hr (by decide +kernel))) <|
  OkT.nil⟩
def T_X6_nearest (ex : Ex) : Tb := [(0, oAld 0 1), (1, oGetA 4 1), (4, pS (fPush (.int 1073741824)) 2), (6, oCallS ex 205 2), (9, oAld 0 1), (10, pS (fPush (.int 0)) 1), (11, oPutI 4 3), (14, oAld 0 1), (15, oIld 2 1), (16, pS (fPush (.int 0)) 1), (17, oCallV ex 85 2 4), (20, pS (fPush (.int 0)) 1), (21, oIst 5 2), (23, oFg [2, 6] (oIld 5 2)), (25, pS (fPush (.int 3906)) 3), (28, oIc_ge 79), (31, oAld 0 1), (32, oGetI 4 3), (35, oIf_le 79), (38, oAld 0 1), (39, oCallV ex 86 0 4), (42, oIst 6 2), (44, oAld 1 1), (45, oIld 6 2), (47, oCallV ex 75 1 3), (50, oIld 3 1), (51, oIc_ne 64), (54, oAld 0 1), (55, oGetA 4 1), (58, oIld 6 2), (60, oCallS ex 133 2), (63, oRetI), (64, oFg [2] (oAld 0 1)), (65, oAld 1 1), (66, oIld 6 2), (68, oIld 4 2), (70, oCallV ex 84 3 4), (73, oInc 5 1), (76, oGoto 23), (79, oFg [0, 1, 2, 3, 4, 5, 6] (pS (fPush (.int 1073741824)) 2)), (81, oRetI)]
set_option maxRecDepth 20000 in
theorem ta_X6_nearest : TabOk MIS T_X6_nearest mi_X6_nearest := ⟨by decide +kernel, fun l d ex hex p e R s m args below meth c cells slots ad D cI cZ A cx hR hA hr =>
  OkT.cons (ok_aload_n (kn := 0) rfl cx (by decide +kernel)) <|
  OkT.cons (ok_getA (k := 0) fg_RX6_11 (by decide) rfl cx (by decide +kernel)) <|
  OkT.cons (ok_ldc cx w_636 (by decide +kernel)) <|
  OkT.cons (ok_callS hex rfl ca_RX6_25 hR hA cx (by decide +kernel)) <|
  OkT.cons (ok_aload_n (kn := 0) rfl cx (by decide +kernel)) <|
  OkT.cons (ok_iconst (n := 0) cx (by decide +kernel) rfl) <|
  OkT.cons (ok_putI fp_RX6_31 (by decide) rfl cx (by decide +kernel)) <|
  OkT.cons (ok_aload_n (kn := 0) rfl cx (by decide +kernel)) <|
  OkT.cons (ok_iload_n (kn := 2) rfl cx (by decide +kernel)) <|
  OkT.cons (ok_iconst (n := 0) cx (by decide +kernel) rfl) <|
  OkT.cons (ok_callV hex rfl rfl (by decide) ca_RX6_35 hR hA cx (by decide +kernel)) <|
  OkT.cons (ok_iconst (n := 0) cx (by decide +kernel) rfl) <|
  OkT.cons (ok_istore cx (by decide +kernel)) <|
  OkT.cons (ok_fg [2, 6] (ok_iload cx (by decide +kernel))) <|
  OkT.cons (ok_sipush (n := 3906) cx (by decide +kernel) rfl) <|
  OkT.cons (ok_Ic_ge (off := 51) (by decide) cx (by decide +kernel)) <|
  OkT.cons (ok_aload_n (kn := 0) rfl cx (by decide +kernel)) <|
  OkT.cons (ok_getI fg_RX6_31 (by decide) rfl cx (by decide +kernel)) <|
  OkT.cons (ok_If_le (off := 44) (by decide) cx (by decide +kernel)) <|
  OkT.cons (ok_aload_n (kn := 0) rfl cx (by decide +kernel)) <|
  OkT.cons (ok_callV hex rfl rfl (by decide) ca_RX6_39 hR hA cx (by decide +kernel)) <|
  OkT.cons (ok_istore cx (by decide +kernel)) <|
  OkT.cons (ok_aload_n (kn := 1) rfl cx (by decide +kernel)) <|
  OkT.cons (ok_iload cx (by decide +kernel)) <|
  OkT.cons (ok_callV hex rfl rfl (by decide) ca_RX6_43 hR hA cx (by decide +kernel)) <|
  OkT.cons (ok_iload_n (kn := 3) rfl cx (by decide +kernel)) <|
  OkT.cons (ok_Ic_ne (off := 13) (by decide) cx (by decide +kernel)) <|
  OkT.cons (ok_aload_n (kn := 0) rfl cx (by decide +kernel)) <|
  OkT.cons (ok_getA (k := 0) fg_RX6_11 (by decide) rfl cx (by decide +kernel)) <|
  OkT.cons (ok_iload cx (by decide +kernel)) <|
  OkT.cons (ok_callN hex rfl ca_RX6_49 hR hA cx (by decide +kernel)) <|
  OkT.cons (ok_retI hr (by decide +kernel)) <|
  OkT.cons (ok_fg [2] (ok_aload_n (kn := 0) rfl cx (by decide +kernel))) <|
  OkT.cons (ok_aload_n (kn := 1) rfl cx (by decide +kernel)) <|
  OkT.cons (ok_iload cx (by decide +kernel)) <|
  OkT.cons (ok_iload cx (by decide +kernel)) <|
  OkT.cons (ok_callV hex rfl rfl (by decide) ca_RX6_53 hR hA cx (by decide +kernel)) <|
  OkT.cons (ok_iinc (n := 1) rfl cx (by decide +kernel)) <|
  OkT.cons (ok_goto (off := (-53)) (by decide) cx (by decide +kernel)) <|
  OkT.cons (ok_fg [0, 1, 2, 3, 4, 5, 6] (ok_ldc cx w_636 (by decide +kernel))) <|
  OkT.cons (ok_retI hr (by decide +kernel)) <|
  OkT.nil⟩
def T_X6_goOnFrom (ex : Ex) : Tb := [(0, oAld 0 1), (1, oGetA 4 1), (4, oIld 2 1), (5, oCallS ex 133 2), (8, oIst 4 2), (10, pS (fPush (.int 0)) 1), (11, oIst 5 2), (13, oFg [6, 7] (oIld 5 2)), (15, pS (fPush (.int 6)) 2), (17, oIc_gt 79), (20, oAld 1 1), (21, oIld 2 1), (22, oIld 3 1), (23, oIld 5 2), (25, oCallV ex 76 3 3), (28, oIst 6 2), (30, oIld 6 2), (32, oIf_lt 73), (35, oIld 4 2), (37, oIf_ne 45), (40, oIld 5 2), (42, oGoto 46), (45, oFg [7] (pS (fPush (.int 0)) 1)), (46, oFg [7] (oIst 7 2)), (48, oAld 0 1), (49, oIld 6 2), (51, oIld 4 2), (53, oAld 1 1), (54, oIld 2 1), (55, oIld 5 2), (57, oCallV ex 77 2 3), (60, pS (fPush (.int 65536)) 2), (62, pS (fB (fun x y => x * y)) 1), (63, pS (fB (fun x y => x + y)) 1), (64, pS (fPush (.int 8)) 2), (66, pS (fB (fun x y => x + y)) 1), (67, oIld 7 2), (69, pS (fB (fun x y => x + y)) 1), (70, oCallV ex 85 2 4), (73, oFg [6, 7] (oInc 5 1)), (76, oGoto 13), (79, oFg [0, 1, 2, 3, 4, 5, 6, 7] (oRetV))]
set_option maxRecDepth 20000 in
theorem ta_X6_goOnFrom : TabOk MIS T_X6_goOnFrom mi_X6_goOnFrom := ⟨by decide +kernel, fun l d ex hex p e R s m args below meth c cells slots ad D cI cZ A cx hR hA hr =>
  OkT.cons (ok_aload_n (kn := 0) rfl cx (by decide +kernel)) <|
  OkT.cons (ok_getA (k := 0) fg_RX6_11 (by decide) rfl cx (by decide +kernel)) <|
  OkT.cons (ok_iload_n (kn := 2) rfl cx (by decide +kernel)) <|
  OkT.cons (ok_callN hex rfl ca_RX6_49 hR hA cx (by decide +kernel)) <|
  OkT.cons (ok_istore cx (by decide +kernel)) <|
  OkT.cons (ok_iconst (n := 0) cx (by decide +kernel) rfl) <|
  OkT.cons (ok_istore cx (by decide +kernel)) <|
  OkT.cons (ok_fg [6, 7] (ok_iload cx (by decide +kernel))) <|
  OkT.cons (ok_bipush (n := 6) cx (by decide +kernel) rfl) <|
  OkT.cons (ok_Ic_gt (off := 62) (by decide) cx (by decide +kernel)) <|
  OkT.cons (ok_aload_n (kn := 1) rfl cx (by decide +kernel)) <|
  OkT.cons (ok_iload_n (kn := 2) rfl cx (by decide +kernel)) <|
  OkT.cons (ok_iload_n (kn := 3) rfl cx (by decide +kernel)) <|
  OkT.cons (ok_iload cx (by decide +kernel)) <|
  OkT.cons (ok_callV hex rfl rfl (by decide) ca_RX6_57 hR hA cx (by decide +kernel)) <|
  OkT.cons (ok_istore cx (by decide +kernel)) <|
  OkT.cons (ok_iload cx (by decide +kernel)) <|
  OkT.cons (ok_If_lt (off := 41) (by decide) cx (by decide +kernel)) <|
  OkT.cons (ok_iload cx (by decide +kernel)) <|
  OkT.cons (ok_If_ne (off := 8) (by decide) cx (by decide +kernel)) <|
  OkT.cons (ok_iload cx (by decide +kernel)) <|
  OkT.cons (ok_goto (off := 4) (by decide) cx (by decide +kernel)) <|
  OkT.cons (ok_fg [7] (ok_iconst (n := 0) cx (by decide +kernel) rfl)) <|
  OkT.cons (ok_fg [7] (ok_istore cx (by decide +kernel))) <|
  OkT.cons (ok_aload_n (kn := 0) rfl cx (by decide +kernel)) <|
  OkT.cons (ok_iload cx (by decide +kernel)) <|
  OkT.cons (ok_iload cx (by decide +kernel)) <|
  OkT.cons (ok_aload_n (kn := 1) rfl cx (by decide +kernel)) <|
  OkT.cons (ok_iload_n (kn := 2) rfl cx (by decide +kernel)) <|
  OkT.cons (ok_iload cx (by decide +kernel)) <|
  OkT.cons (ok_callV hex rfl rfl (by decide) ca_RX6_61 hR hA cx (by decide +kernel)) <|
  OkT.cons (ok_ldc cx w_671 (by decide +kernel)) <|
  OkT.cons (ok_imul cx (by decide +kernel)) <|
  OkT.cons (ok_iadd cx (by decide +kernel)) <|
  OkT.cons (ok_bipush (n := 8) cx (by decide +kernel) rfl) <|
  OkT.cons (ok_iadd cx (by decide +kernel)) <|
  OkT.cons (ok_iload cx (by decide +kernel)) <|
  OkT.cons (ok_iadd cx (by decide +kernel)) <|
  OkT.cons (ok_callV hex rfl rfl (by decide) ca_RX6_35 hR hA cx (by decide +kernel)) <|
  OkT.cons (ok_fg [6, 7] (ok_iinc (n := 1) rfl cx (by decide +kernel))) <|
  OkT.cons (ok_goto (off := (-63)) (by decide) cx (by decide +kernel)) <|
  OkT.cons (ok_fg [0, 1, 2, 3, 4, 5, 6, 7] (ok_retV hr (by decide +kernel))) <|
  OkT.nil⟩
def T_X6_offer (ex : Ex) : Tb := [(0, oAld 0 1), (1, oGetA 4 1), (4, oIld 1 1), (5, oCallS ex 133 2), (8, oIst 3 1), (9, oIld 2 1), (10, oIld 3 1), (11, oIc_lt 15), (14, oRetV), (15, oAld 0 1), (16, oGetA 4 1), (19, oIld 1 1), (20, oIld 2 1), (21, oCallS ex 134 3), (24, oIld 3 1), (25, pS (fPush (.int 1073741824)) 2), (27, oIc_ne 52), (30, oAld 0 1), (31, oAld 0 1), (32, oGetI 4 3), (35, oIld 1 1), (36, oCallV ex 87 2 4), (39, oAld 0 1), (40, pS fDup 1), (41, oGetI 4 3), (44, pS (fPush (.int 1)) 1), (45, pS (fB (fun x y => x + y)) 1), (46, oPutI 4 3), (49, oGoto 65), (52, oFg [2, 3] (oAld 0 1)), (53, oAld 0 1), (54, oGetA 4 3), (57, oIld 1 1), (58, oCallS ex 133 2), (61, oIld 1 1), (62, oCallV ex 87 2 4), (65, oFg [0, 1, 2, 3] (oRetV))]
set_option maxRecDepth 20000 in
theorem ta_X6_offer : TabOk MIS T_X6_offer mi_X6_offer := ⟨by decide +kernel, fun l d ex hex p e R s m args below meth c cells slots ad D cI cZ A cx hR hA hr =>
  OkT.cons (ok_aload_n (kn := 0) rfl cx (by decide +kernel)) <|
  OkT.cons (ok_getA (k := 0) fg_RX6_11 (by decide) rfl cx (by decide +kernel)) <|
  OkT.cons (ok_iload_n (kn := 1) rfl cx (by decide +kernel)) <|
  OkT.cons (ok_callN hex rfl ca_RX6_49 hR hA cx (by decide +kernel)) <|
  OkT.cons (ok_istore_n (kn := 3) rfl cx (by decide +kernel)) <|
  OkT.cons (ok_iload_n (kn := 2) rfl cx (by decide +kernel)) <|
  OkT.cons (ok_iload_n (kn := 3) rfl cx (by decide +kernel)) <|
  OkT.cons (ok_Ic_lt (off := 4) (by decide) cx (by decide +kernel)) <|
  OkT.cons (ok_retV hr (by decide +kernel)) <|
  OkT.cons (ok_aload_n (kn := 0) rfl cx (by decide +kernel)) <|
  OkT.cons (ok_getA (k := 0) fg_RX6_11 (by decide) rfl cx (by decide +kernel)) <|
  OkT.cons (ok_iload_n (kn := 1) rfl cx (by decide +kernel)) <|
  OkT.cons (ok_iload_n (kn := 2) rfl cx (by decide +kernel)) <|
  OkT.cons (ok_callN hex rfl ca_RX6_65 hR hA cx (by decide +kernel)) <|
  OkT.cons (ok_iload_n (kn := 3) rfl cx (by decide +kernel)) <|
  OkT.cons (ok_ldc cx w_636 (by decide +kernel)) <|
  OkT.cons (ok_Ic_ne (off := 25) (by decide) cx (by decide +kernel)) <|
  OkT.cons (ok_aload_n (kn := 0) rfl cx (by decide +kernel)) <|
  OkT.cons (ok_aload_n (kn := 0) rfl cx (by decide +kernel)) <|
  OkT.cons (ok_getI fg_RX6_31 (by decide) rfl cx (by decide +kernel)) <|
  OkT.cons (ok_iload_n (kn := 1) rfl cx (by decide +kernel)) <|
  OkT.cons (ok_callV hex rfl rfl (by decide) ca_RX6_69 hR hA cx (by decide +kernel)) <|
  OkT.cons (ok_aload_n (kn := 0) rfl cx (by decide +kernel)) <|
  OkT.cons (ok_dup cx (by decide +kernel)) <|
  OkT.cons (ok_getI fg_RX6_31 (by decide) rfl cx (by decide +kernel)) <|
  OkT.cons (ok_iconst (n := 1) cx (by decide +kernel) rfl) <|
  OkT.cons (ok_iadd cx (by decide +kernel)) <|
  OkT.cons (ok_putI fp_RX6_31 (by decide) rfl cx (by decide +kernel)) <|
  OkT.cons (ok_goto (off := 16) (by decide) cx (by decide +kernel)) <|
  OkT.cons (ok_fg [2, 3] (ok_aload_n (kn := 0) rfl cx (by decide +kernel))) <|
  OkT.cons (ok_aload_n (kn := 0) rfl cx (by decide +kernel)) <|
  OkT.cons (ok_getA (k := 2) fg_RX6_20 (by decide) rfl cx (by decide +kernel)) <|
  OkT.cons (ok_iload_n (kn := 1) rfl cx (by decide +kernel)) <|
  OkT.cons (ok_callN hex rfl ca_RX6_49 hR hA cx (by decide +kernel)) <|
  OkT.cons (ok_iload_n (kn := 1) rfl cx (by decide +kernel)) <|
  OkT.cons (ok_callV hex rfl rfl (by decide) ca_RX6_69 hR hA cx (by decide +kernel)) <|
  OkT.cons (ok_fg [0, 1, 2, 3] (ok_retV hr (by decide +kernel))) <|
  OkT.nil⟩
def T_X6_takeLeast (ex : Ex) : Tb := [(0, oAld 0 1), (1, oGetA 4 2), (4, pS (fPush (.int 0)) 1), (5, oCallS ex 133 2), (8, oIst 1 1), (9, oAld 0 1), (10, pS fDup 1), (11, oGetI 4 3), (14, pS (fPush (.int 1)) 1), (15, pS (fB (fun x y => x - y)) 1), (16, oPutI 4 3), (19, oAld 0 1), (20, oGetI 4 3), (23, oIf_le 41), (26, oAld 0 1), (27, oAld 0 1), (28, oGetA 4 2), (31, oAld 0 1), (32, oGetI 4 3), (35, oCallS ex 133 2), (38, oCallV ex 88 1 4), (41, oFg [0] (oIld 1 1)), (42, oRetI)]
set_option maxRecDepth 20000 in
theorem ta_X6_takeLeast : TabOk MIS T_X6_takeLeast mi_X6_takeLeast := ⟨by decide +kernel, fun l d ex hex p e R s m args below meth c cells slots ad D cI cZ A cx hR hA hr =>
  OkT.cons (ok_aload_n (kn := 0) rfl cx (by decide +kernel)) <|
  OkT.cons (ok_getA (k := 1) fg_RX6_17 (by decide) rfl cx (by decide +kernel)) <|
  OkT.cons (ok_iconst (n := 0) cx (by decide +kernel) rfl) <|
  OkT.cons (ok_callN hex rfl ca_RX6_49 hR hA cx (by decide +kernel)) <|
  OkT.cons (ok_istore_n (kn := 1) rfl cx (by decide +kernel)) <|
  OkT.cons (ok_aload_n (kn := 0) rfl cx (by decide +kernel)) <|
  OkT.cons (ok_dup cx (by decide +kernel)) <|
  OkT.cons (ok_getI fg_RX6_31 (by decide) rfl cx (by decide +kernel)) <|
  OkT.cons (ok_iconst (n := 1) cx (by decide +kernel) rfl) <|
  OkT.cons (ok_isub cx (by decide +kernel)) <|
  OkT.cons (ok_putI fp_RX6_31 (by decide) rfl cx (by decide +kernel)) <|
  OkT.cons (ok_aload_n (kn := 0) rfl cx (by decide +kernel)) <|
  OkT.cons (ok_getI fg_RX6_31 (by decide) rfl cx (by decide +kernel)) <|
  OkT.cons (ok_If_le (off := 18) (by decide) cx (by decide +kernel)) <|
  OkT.cons (ok_aload_n (kn := 0) rfl cx (by decide +kernel)) <|
  OkT.cons (ok_aload_n (kn := 0) rfl cx (by decide +kernel)) <|
  OkT.cons (ok_getA (k := 1) fg_RX6_17 (by decide) rfl cx (by decide +kernel)) <|
  OkT.cons (ok_aload_n (kn := 0) rfl cx (by decide +kernel)) <|
  OkT.cons (ok_getI fg_RX6_31 (by decide) rfl cx (by decide +kernel)) <|
  OkT.cons (ok_callN hex rfl ca_RX6_49 hR hA cx (by decide +kernel)) <|
  OkT.cons (ok_callV hex rfl rfl (by decide) ca_RX6_72 hR hA cx (by decide +kernel)) <|
  OkT.cons (ok_fg [0] (ok_iload_n (kn := 1) rfl cx (by decide +kernel))) <|
  OkT.cons (ok_retI hr (by decide +kernel)) <|
  OkT.nil⟩
def T_X6_rise (ex : Ex) : Tb := [(0, oIld 1 1), (1, oIst 3 1), (2, pS (fPush (.int 0)) 1), (3, oIst 4 2), (5, oFg [1, 5] (oIld 4 2)), (7, pS (fPush (.int 32)) 2), (9, oIc_ge 72), (12, oIld 3 1), (13, oIf_le 72), (16, oAld 0 1), (17, oGetA 4 2), (20, oIld 3 1), (21, pS (fPush (.int 1)) 1), (22, pS (fB (fun x y => x - y)) 1), (23, pS (fPush (.int 2)) 1), (24, pS (fDv (fun x y => x / y)) 1), (25, oCallS ex 133 2), (28, oIst 5 2), (30, oAld 0 1), (31, oGetA 4 1), (34, oIld 5 2), (36, oCallS ex 133 2), (39, oAld 0 1), (40, oGetA 4 1), (43, oIld 2 1), (44, oCallS ex 133 2), (47, oIc_gt 53), (50, oGoto 72), (53, oFg [1] (oAld 0 1)), (54, oIld 5 2), (56, oIld 3 1), (57, oCallV ex 90 2 4), (60, oIld 3 1), (61, pS (fPush (.int 1)) 1), (62, pS (fB (fun x y => x - y)) 1), (63, pS (fPush (.int 2)) 1), (64, pS (fDv (fun x y => x / y)) 1), (65, oIst 3 1), (66, oInc 4 1), (69, oGoto 5), (72, oFg [1, 4, 5] (oAld 0 1)), (73, oIld 2 1), (74, oIld 3 1), (75, oCallV ex 90 2 4), (78, oRetV)]
set_option maxRecDepth 20000 in
theorem ta_X6_rise : TabOk MIS T_X6_rise mi_X6_rise := ⟨by decide +kernel, fun l d ex hex p e R s m args below meth c cells slots ad D cI cZ A cx hR hA hr =>
  OkT.cons (ok_iload_n (kn := 1) rfl cx (by decide +kernel)) <|
  OkT.cons (ok_istore_n (kn := 3) rfl cx (by decide +kernel)) <|
  OkT.cons (ok_iconst (n := 0) cx (by decide +kernel) rfl) <|
  OkT.cons (ok_istore cx (by decide +kernel)) <|
  OkT.cons (ok_fg [1, 5] (ok_iload cx (by decide +kernel))) <|
  OkT.cons (ok_bipush (n := 32) cx (by decide +kernel) rfl) <|
  OkT.cons (ok_Ic_ge (off := 63) (by decide) cx (by decide +kernel)) <|
  OkT.cons (ok_iload_n (kn := 3) rfl cx (by decide +kernel)) <|
  OkT.cons (ok_If_le (off := 59) (by decide) cx (by decide +kernel)) <|
  OkT.cons (ok_aload_n (kn := 0) rfl cx (by decide +kernel)) <|
  OkT.cons (ok_getA (k := 1) fg_RX6_17 (by decide) rfl cx (by decide +kernel)) <|
  OkT.cons (ok_iload_n (kn := 3) rfl cx (by decide +kernel)) <|
  OkT.cons (ok_iconst (n := 1) cx (by decide +kernel) rfl) <|
  OkT.cons (ok_isub cx (by decide +kernel)) <|
  OkT.cons (ok_iconst (n := 2) cx (by decide +kernel) rfl) <|
  OkT.cons (ok_idiv cx (by decide +kernel)) <|
  OkT.cons (ok_callN hex rfl ca_RX6_49 hR hA cx (by decide +kernel)) <|
  OkT.cons (ok_istore cx (by decide +kernel)) <|
  OkT.cons (ok_aload_n (kn := 0) rfl cx (by decide +kernel)) <|
  OkT.cons (ok_getA (k := 0) fg_RX6_11 (by decide) rfl cx (by decide +kernel)) <|
  OkT.cons (ok_iload cx (by decide +kernel)) <|
  OkT.cons (ok_callN hex rfl ca_RX6_49 hR hA cx (by decide +kernel)) <|
  OkT.cons (ok_aload_n (kn := 0) rfl cx (by decide +kernel)) <|
  OkT.cons (ok_getA (k := 0) fg_RX6_11 (by decide) rfl cx (by decide +kernel)) <|
  OkT.cons (ok_iload_n (kn := 2) rfl cx (by decide +kernel)) <|
  OkT.cons (ok_callN hex rfl ca_RX6_49 hR hA cx (by decide +kernel)) <|
  OkT.cons (ok_Ic_gt (off := 6) (by decide) cx (by decide +kernel)) <|
  OkT.cons (ok_goto (off := 22) (by decide) cx (by decide +kernel)) <|
  OkT.cons (ok_fg [1] (ok_aload_n (kn := 0) rfl cx (by decide +kernel))) <|
  OkT.cons (ok_iload cx (by decide +kernel)) <|
  OkT.cons (ok_iload_n (kn := 3) rfl cx (by decide +kernel)) <|
  OkT.cons (ok_callV hex rfl rfl (by decide) ca_RX6_76 hR hA cx (by decide +kernel)) <|
  OkT.cons (ok_iload_n (kn := 3) rfl cx (by decide +kernel)) <|
  OkT.cons (ok_iconst (n := 1) cx (by decide +kernel) rfl) <|
  OkT.cons (ok_isub cx (by decide +kernel)) <|
  OkT.cons (ok_iconst (n := 2) cx (by decide +kernel) rfl) <|
  OkT.cons (ok_idiv cx (by decide +kernel)) <|
  OkT.cons (ok_istore_n (kn := 3) rfl cx (by decide +kernel)) <|
  OkT.cons (ok_iinc (n := 1) rfl cx (by decide +kernel)) <|
  OkT.cons (ok_goto (off := (-64)) (by decide) cx (by decide +kernel)) <|
  OkT.cons (ok_fg [1, 4, 5] (ok_aload_n (kn := 0) rfl cx (by decide +kernel))) <|
  OkT.cons (ok_iload_n (kn := 2) rfl cx (by decide +kernel)) <|
  OkT.cons (ok_iload_n (kn := 3) rfl cx (by decide +kernel)) <|
  OkT.cons (ok_callV hex rfl rfl (by decide) ca_RX6_76 hR hA cx (by decide +kernel)) <|
  OkT.cons (ok_retV hr (by decide +kernel)) <|
  OkT.nil⟩
def T_X6_sink (ex : Ex) : Tb := [(0, pS (fPush (.int 0)) 1), (1, oIst 2 1), (2, pS (fPush (.int 0)) 1), (3, oIst 3 1), (4, oFg [4] (oIld 3 1)), (5, pS (fPush (.int 32)) 2), (7, oIc_ge 103), (10, pS (fPush (.int 2)) 1), (11, oIld 2 1), (12, pS (fB (fun x y => x * y)) 1), (13, pS (fPush (.int 1)) 1), (14, pS (fB (fun x y => x + y)) 1), (15, oAld 0 1), (16, oGetI 4 3), (19, oIc_ge 103), (22, pS (fPush (.int 2)) 1), (23, oIld 2 1), (24, pS (fB (fun x y => x * y)) 1), (25, pS (fPush (.int 1)) 1), (26, pS (fB (fun x y => x + y)) 1), (27, oIst 4 2), (29, oIld 4 2), (31, pS (fPush (.int 1)) 1), (32, pS (fB (fun x y => x + y)) 1), (33, oAld 0 1), (34, oGetI 4 3), (37, oIc_ge 60), (40, oAld 0 1), (41, oIld 4 2), (43, pS (fPush (.int 1)) 1), (44, pS (fB (fun x y => x + y)) 1), (45, oCallV ex 89 1 4), (48, oAld 0 1), (49, oIld 4 2), (51, oCallV ex 89 1 4), (54, oIc_ge 60), (57, oInc 4 1), (60, oAld 0 1), (61, oIld 4 2), (63, oCallV ex 89 1 4), (66, oAld 0 1), (67, oGetA 4 1), (70, oIld 1 1), (71, oCallS ex 133 2), (74, oIc_lt 80), (77, oGoto 103), (80, oAld 0 1), (81, oAld 0 1), (82, oGetA 4 2), (85, oIld 4 2), (87, oCallS ex 133 2), (90, oIld 2 1), (91, oCallV ex 90 2 4), (94, oIld 4 2), (96, oIst 2 1), (97, oInc 3 1), (100, oGoto 4), (103, oFg [3, 4] (oAld 0 1)), (104, oIld 1 1), (105, oIld 2 1), (106, oCallV ex 90 2 4), (109, oRetV)]
set_option maxRecDepth 20000 in
theorem ta_X6_sink : TabOk MIS T_X6_sink mi_X6_sink := ⟨by decide +kernel, fun l d ex hex p e R s m args below meth c cells slots ad D cI cZ A cx hR hA hr =>
  OkT.cons (ok_iconst (n := 0) cx (by decide +kernel) rfl) <|
  OkT.cons (ok_istore_n (kn := 2) rfl cx (by decide +kernel)) <|
  OkT.cons (ok_iconst (n := 0) cx (by decide +kernel) rfl) <|
  OkT.cons (ok_istore_n (kn := 3) rfl cx (by decide +kernel)) <|
  OkT.cons (ok_fg [4] (ok_iload_n (kn := 3) rfl cx (by decide +kernel))) <|
  OkT.cons (ok_bipush (n := 32) cx (by decide +kernel) rfl) <|
  OkT.cons (ok_Ic_ge (off := 96) (by decide) cx (by decide +kernel)) <|
  OkT.cons (ok_iconst (n := 2) cx (by decide +kernel) rfl) <|
  OkT.cons (ok_iload_n (kn := 2) rfl cx (by decide +kernel)) <|
  OkT.cons (ok_imul cx (by decide +kernel)) <|
  OkT.cons (ok_iconst (n := 1) cx (by decide +kernel) rfl) <|
  OkT.cons (ok_iadd cx (by decide +kernel)) <|
  OkT.cons (ok_aload_n (kn := 0) rfl cx (by decide +kernel)) <|
  OkT.cons (ok_getI fg_RX6_31 (by decide) rfl cx (by decide +kernel)) <|
  OkT.cons (ok_Ic_ge (off := 84) (by decide) cx (by decide +kernel)) <|
  OkT.cons (ok_iconst (n := 2) cx (by decide +kernel) rfl) <|
  OkT.cons (ok_iload_n (kn := 2) rfl cx (by decide +kernel)) <|
  OkT.cons (ok_imul cx (by decide +kernel)) <|
  OkT.cons (ok_iconst (n := 1) cx (by decide +kernel) rfl) <|
  OkT.cons (ok_iadd cx (by decide +kernel)) <|
  OkT.cons (ok_istore cx (by decide +kernel)) <|
  OkT.cons (ok_iload cx (by decide +kernel)) <|
  OkT.cons (ok_iconst (n := 1) cx (by decide +kernel) rfl) <|
  OkT.cons (ok_iadd cx (by decide +kernel)) <|
  OkT.cons (ok_aload_n (kn := 0) rfl cx (by decide +kernel)) <|
  OkT.cons (ok_getI fg_RX6_31 (by decide) rfl cx (by decide +kernel)) <|
  OkT.cons (ok_Ic_ge (off := 23) (by decide) cx (by decide +kernel)) <|
  OkT.cons (ok_aload_n (kn := 0) rfl cx (by decide +kernel)) <|
  OkT.cons (ok_iload cx (by decide +kernel)) <|
  OkT.cons (ok_iconst (n := 1) cx (by decide +kernel) rfl) <|
  OkT.cons (ok_iadd cx (by decide +kernel)) <|
  OkT.cons (ok_callV hex rfl rfl (by decide) ca_RX6_79 hR hA cx (by decide +kernel)) <|
  OkT.cons (ok_aload_n (kn := 0) rfl cx (by decide +kernel)) <|
  OkT.cons (ok_iload cx (by decide +kernel)) <|
  OkT.cons (ok_callV hex rfl rfl (by decide) ca_RX6_79 hR hA cx (by decide +kernel)) <|
  OkT.cons (ok_Ic_ge (off := 6) (by decide) cx (by decide +kernel)) <|
  OkT.cons (ok_iinc (n := 1) rfl cx (by decide +kernel)) <|
  OkT.cons (ok_aload_n (kn := 0) rfl cx (by decide +kernel)) <|
  OkT.cons (ok_iload cx (by decide +kernel)) <|
  OkT.cons (ok_callV hex rfl rfl (by decide) ca_RX6_79 hR hA cx (by decide +kernel)) <|
  OkT.cons (ok_aload_n (kn := 0) rfl cx (by decide +kernel)) <|
  OkT.cons (ok_getA (k := 0) fg_RX6_11 (by decide) rfl cx (by decide +kernel)) <|
  OkT.cons (ok_iload_n (kn := 1) rfl cx (by decide +kernel)) <|
  OkT.cons (ok_callN hex rfl ca_RX6_49 hR hA cx (by decide +kernel)) <|
  OkT.cons (ok_Ic_lt (off := 6) (by decide) cx (by decide +kernel)) <|
  OkT.cons (ok_goto (off := 26) (by decide) cx (by decide +kernel)) <|
  OkT.cons (ok_aload_n (kn := 0) rfl cx (by decide +kernel)) <|
  OkT.cons (ok_aload_n (kn := 0) rfl cx (by decide +kernel)) <|
  OkT.cons (ok_getA (k := 1) fg_RX6_17 (by decide) rfl cx (by decide +kernel)) <|
  OkT.cons (ok_iload cx (by decide +kernel)) <|
  OkT.cons (ok_callN hex rfl ca_RX6_49 hR hA cx (by decide +kernel)) <|
  OkT.cons (ok_iload_n (kn := 2) rfl cx (by decide +kernel)) <|
  OkT.cons (ok_callV hex rfl rfl (by decide) ca_RX6_76 hR hA cx (by decide +kernel)) <|
  OkT.cons (ok_iload cx (by decide +kernel)) <|
  OkT.cons (ok_istore_n (kn := 2) rfl cx (by decide +kernel)) <|
  OkT.cons (ok_iinc (n := 1) rfl cx (by decide +kernel)) <|
  OkT.cons (ok_goto (off := (-96)) (by decide) cx (by decide +kernel)) <|
  OkT.cons (ok_fg [3, 4] (ok_aload_n (kn := 0) rfl cx (by decide +kernel))) <|
  OkT.cons (ok_iload_n (kn := 1) rfl cx (by decide +kernel)) <|
  OkT.cons (ok_iload_n (kn := 2) rfl cx (by decide +kernel)) <|
  OkT.cons (ok_callV hex rfl rfl (by decide) ca_RX6_76 hR hA cx (by decide +kernel)) <|
  OkT.cons (ok_retV hr (by decide +kernel)) <|
  OkT.nil⟩
def T_X6_labelAt (ex : Ex) : Tb := [(0, oAld 0 1), (1, oGetA 4 1), (4, oAld 0 1), (5, oGetA 4 2), (8, oIld 1 1), (9, oCallS ex 133 2), (12, oCallS ex 133 2), (15, oRetI)]
set_option maxRecDepth 20000 in
theorem ta_X6_labelAt : TabOk MIS T_X6_labelAt mi_X6_labelAt := ⟨by decide +kernel, fun l d ex hex p e R s m args below meth c cells slots ad D cI cZ A cx hR hA hr =>
  OkT.cons (ok_aload_n (kn := 0) rfl cx (by decide +kernel)) <|
  OkT.cons (ok_getA (k := 0) fg_RX6_11 (by decide) rfl cx (by decide +kernel)) <|
  OkT.cons (ok_aload_n (kn := 0) rfl cx (by decide +kernel)) <|
  OkT.cons (ok_getA (k := 1) fg_RX6_17 (by decide) rfl cx (by decide +kernel)) <|
  OkT.cons (ok_iload_n (kn := 1) rfl cx (by decide +kernel)) <|
  OkT.cons (ok_callN hex rfl ca_RX6_49 hR hA cx (by decide +kernel)) <|
  OkT.cons (ok_callN hex rfl ca_RX6_49 hR hA cx (by decide +kernel)) <|
  OkT.cons (ok_retI hr (by decide +kernel)) <|
  OkT.nil⟩
def T_X6_sit (ex : Ex) : Tb := [(0, oAld 0 1), (1, oGetA 4 2), (4, oIld 2 1), (5, oIld 1 1), (6, oCallS ex 134 3), (9, oAld 0 1), (10, oGetA 4 3), (13, oIld 1 1), (14, oIld 2 1), (15, oCallS ex 134 3), (18, oRetV)]
set_option maxRecDepth 20000 in
theorem ta_X6_sit : TabOk MIS T_X6_sit mi_X6_sit := ⟨by decide +kernel, fun l d ex hex p e R s m args below meth c cells slots ad D cI cZ A cx hR hA hr =>
  OkT.cons (ok_aload_n (kn := 0) rfl cx (by decide +kernel)) <|
  OkT.cons (ok_getA (k := 1) fg_RX6_17 (by decide) rfl cx (by decide +kernel)) <|
  OkT.cons (ok_iload_n (kn := 2) rfl cx (by decide +kernel)) <|
  OkT.cons (ok_iload_n (kn := 1) rfl cx (by decide +kernel)) <|
  OkT.cons (ok_callN hex rfl ca_RX6_65 hR hA cx (by decide +kernel)) <|
  OkT.cons (ok_aload_n (kn := 0) rfl cx (by decide +kernel)) <|
  OkT.cons (ok_getA (k := 2) fg_RX6_20 (by decide) rfl cx (by decide +kernel)) <|
  OkT.cons (ok_iload_n (kn := 1) rfl cx (by decide +kernel)) <|
  OkT.cons (ok_iload_n (kn := 2) rfl cx (by decide +kernel)) <|
  OkT.cons (ok_callN hex rfl ca_RX6_65 hR hA cx (by decide +kernel)) <|
  OkT.cons (ok_retV hr (by decide +kernel)) <|
  OkT.nil⟩
def T_X7_startAs (ex : Ex) : Tb := [(0, pS (fPush (.int 0)) 1), (1, oIst 2 1), (2, oIld 2 1), (3, pS (fPush (.int 4)) 1), (4, oIc_ge 26), (7, oAld 0 1), (8, oGetA 5 1), (11, oIld 2 1), (12, oAld 1 1), (13, oIld 2 1), (14, oCallV ex 67 1 3), (17, oCallS ex 134 3), (20, oInc 2 1), (23, oGoto 2), (26, oFg [1, 2] (oAld 0 1)), (27, pS (fPush (.int 0)) 1), (28, oPutI 5 1), (31, oAld 0 1), (32, pS (fPush (.int 0)) 1), (33, oPutI 5 5), (36, oAld 0 1), (37, pS (fPush (.int 0)) 1), (38, oPutI 5 9), (41, oRetV)]
set_option maxRecDepth 20000 in
theorem ta_X7_startAs : TabOk MIS T_X7_startAs mi_X7_startAs := ⟨by decide +kernel, fun l d ex hex p e R s m args below meth c cells slots ad D cI cZ A cx hR hA hr =>
  OkT.cons (ok_iconst (n := 0) cx (by decide +kernel) rfl) <|
  OkT.cons (ok_istore_n (kn := 2) rfl cx (by decide +kernel)) <|
  OkT.cons (ok_iload_n (kn := 2) rfl cx (by decide +kernel)) <|
  OkT.cons (ok_iconst (n := 4) cx (by decide +kernel) rfl) <|
  OkT.cons (ok_Ic_ge (off := 22) (by decide) cx (by decide +kernel)) <|
  OkT.cons (ok_aload_n (kn := 0) rfl cx (by decide +kernel)) <|
  OkT.cons (ok_getA (k := 0) fg_RX7_9 (by decide) rfl cx (by decide +kernel)) <|
  OkT.cons (ok_iload_n (kn := 2) rfl cx (by decide +kernel)) <|
  OkT.cons (ok_aload_n (kn := 1) rfl cx (by decide +kernel)) <|
  OkT.cons (ok_iload_n (kn := 2) rfl cx (by decide +kernel)) <|
  OkT.cons (ok_callV hex rfl rfl (by decide) ca_RX7_30 hR hA cx (by decide +kernel)) <|
  OkT.cons (ok_callN hex rfl ca_RX7_36 hR hA cx (by decide +kernel)) <|
  OkT.cons (ok_iinc (n := 1) rfl cx (by decide +kernel)) <|
  OkT.cons (ok_goto (off := (-21)) (by decide) cx (by decide +kernel)) <|
  OkT.cons (ok_fg [1, 2] (ok_aload_n (kn := 0) rfl cx (by decide +kernel))) <|
  OkT.cons (ok_iconst (n := 0) cx (by decide +kernel) rfl) <|
  OkT.cons (ok_putI fp_RX7_40 (by decide) rfl cx (by decide +kernel)) <|
  OkT.cons (ok_aload_n (kn := 0) rfl cx (by decide +kernel)) <|
  OkT.cons (ok_iconst (n := 0) cx (by decide +kernel) rfl) <|
  OkT.cons (ok_putI fp_RX7_44 (by decide) rfl cx (by decide +kernel)) <|
  OkT.cons (ok_aload_n (kn := 0) rfl cx (by decide +kernel)) <|
  OkT.cons (ok_iconst (n := 0) cx (by decide +kernel) rfl) <|
  OkT.cons (ok_putI fp_RX7_47 (by decide) rfl cx (by decide +kernel)) <|
  OkT.cons (ok_retV hr (by decide +kernel)) <|
  OkT.nil⟩
def T_X7_rowOf (ex : Ex) : Tb := [(0, oAld 0 1), (1, oGetA 5 1), (4, oIld 1 1), (5, oCallS ex 133 2), (8, oRetI)]
set_option maxRecDepth 20000 in
theorem ta_X7_rowOf : TabOk MIS T_X7_rowOf mi_X7_rowOf := ⟨by decide +kernel, fun l d ex hex p e R s m args below meth c cells slots ad D cI cZ A cx hR hA hr =>
  OkT.cons (ok_aload_n (kn := 0) rfl cx (by decide +kernel)) <|
  OkT.cons (ok_getA (k := 0) fg_RX7_9 (by decide) rfl cx (by decide +kernel)) <|
  OkT.cons (ok_iload_n (kn := 1) rfl cx (by decide +kernel)) <|
  OkT.cons (ok_callN hex rfl ca_RX7_50 hR hA cx (by decide +kernel)) <|
  OkT.cons (ok_retI hr (by decide +kernel)) <|
  OkT.nil⟩
def T_X7_spent (ex : Ex) : Tb := [(0, oAld 0 1), (1, oGetI 5 1), (4, oRetI)]
set_option maxRecDepth 20000 in
theorem ta_X7_spent : TabOk MIS T_X7_spent mi_X7_spent := ⟨by decide +kernel, fun l d ex hex p e R s m args below meth c cells slots ad D cI cZ A cx hR hA hr =>
  OkT.cons (ok_aload_n (kn := 0) rfl cx (by decide +kernel)) <|
  OkT.cons (ok_getI fg_RX7_40 (by decide) rfl cx (by decide +kernel)) <|
  OkT.cons (ok_retI hr (by decide +kernel)) <|
  OkT.nil⟩
def T_X7_known (ex : Ex) : Tb := [(0, oAld 0 1), (1, oGetI 5 5), (4, oRetI)]
set_option maxRecDepth 20000 in
theorem ta_X7_known : TabOk MIS T_X7_known mi_X7_known := ⟨by decide +kernel, fun l d ex hex p e R s m args below meth c cells slots ad D cI cZ A cx hR hA hr =>
  OkT.cons (ok_aload_n (kn := 0) rfl cx (by decide +kernel)) <|
  OkT.cons (ok_getI fg_RX7_44 (by decide) rfl cx (by decide +kernel)) <|
  OkT.cons (ok_retI hr (by decide +kernel)) <|
  OkT.nil⟩
def T_X7_change (ex : Ex) : Tb := [(0, oAld 0 1), (1, oGetA 5 2), (4, oAld 0 1), (5, oGetI 5 6), (8, oIld 1 1), (9, oCallS ex 134 3), (12, oAld 0 1), (13, oGetA 5 3), (16, oAld 0 1), (17, oGetI 5 6), (20, oAld 0 1), (21, oIld 1 1), (22, oCallV ex 92 1 5), (25, oCallS ex 134 3), (28, oAld 0 1), (29, oGetA 5 4), (32, oAld 0 1), (33, oGetI 5 6), (36, oAld 0 1), (37, oGetI 5 1), (40, oCallS ex 134 3), (43, oAld 0 1), (44, oAld 0 1), (45, oGetI 5 6), (48, pS (fPush (.int 1)) 1), (49, pS (fB (fun x y => x + y)) 1), (50, pS (fPush (.int 12)) 2), (52, pS (fDv (fun x y => x - x / y * y)) 1), (53, oPutI 5 6), (56, oAld 0 1), (57, oAld 0 1), (58, oGetI 5 5), (61, pS (fPush (.int 1)) 1), (62, pS (fB (fun x y => x + y)) 1), (63, pS (fPush (.int 12)) 2), (65, pS fMin 3), (68, oPutI 5 5), (71, oAld 0 1), (72, oGetA 5 1), (75, oIld 1 1), (76, oIld 2 1), (77, oCallS ex 134 3), (80, oAld 0 1), (81, pS fDup 1), (82, oGetI 5 1), (85, oIld 3 1), (86, pS (fB (fun x y => x + y)) 1), (87, oPutI 5 1), (90, oRetV)]
set_option maxRecDepth 20000 in
theorem ta_X7_change : TabOk MIS T_X7_change mi_X7_change := ⟨by decide +kernel, fun l d ex hex p e R s m args below meth c cells slots ad D cI cZ A cx hR hA hr =>
  OkT.cons (ok_aload_n (kn := 0) rfl cx (by decide +kernel)) <|
  OkT.cons (ok_getA (k := 2) fg_RX7_15 (by decide) rfl cx (by decide +kernel)) <|
  OkT.cons (ok_aload_n (kn := 0) rfl cx (by decide +kernel)) <|
  OkT.cons (ok_getI fg_RX7_54 (by decide) rfl cx (by decide +kernel)) <|
  OkT.cons (ok_iload_n (kn := 1) rfl cx (by decide +kernel)) <|
  OkT.cons (ok_callN hex rfl ca_RX7_36 hR hA cx (by decide +kernel)) <|
  OkT.cons (ok_aload_n (kn := 0) rfl cx (by decide +kernel)) <|
  OkT.cons (ok_getA (k := 3) fg_RX7_18 (by decide) rfl cx (by decide +kernel)) <|
  OkT.cons (ok_aload_n (kn := 0) rfl cx (by decide +kernel)) <|
  OkT.cons (ok_getI fg_RX7_54 (by decide) rfl cx (by decide +kernel)) <|
  OkT.cons (ok_aload_n (kn := 0) rfl cx (by decide +kernel)) <|
  OkT.cons (ok_iload_n (kn := 1) rfl cx (by decide +kernel)) <|
  OkT.cons (ok_callV hex rfl rfl (by decide) ca_RX7_57 hR hA cx (by decide +kernel)) <|
  OkT.cons (ok_callN hex rfl ca_RX7_36 hR hA cx (by decide +kernel)) <|
  OkT.cons (ok_aload_n (kn := 0) rfl cx (by decide +kernel)) <|
  OkT.cons (ok_getA (k := 4) fg_RX7_21 (by decide) rfl cx (by decide +kernel)) <|
  OkT.cons (ok_aload_n (kn := 0) rfl cx (by decide +kernel)) <|
  OkT.cons (ok_getI fg_RX7_54 (by decide) rfl cx (by decide +kernel)) <|
  OkT.cons (ok_aload_n (kn := 0) rfl cx (by decide +kernel)) <|
  OkT.cons (ok_getI fg_RX7_40 (by decide) rfl cx (by decide +kernel)) <|
  OkT.cons (ok_callN hex rfl ca_RX7_36 hR hA cx (by decide +kernel)) <|
  OkT.cons (ok_aload_n (kn := 0) rfl cx (by decide +kernel)) <|
  OkT.cons (ok_aload_n (kn := 0) rfl cx (by decide +kernel)) <|
  OkT.cons (ok_getI fg_RX7_54 (by decide) rfl cx (by decide +kernel)) <|
  OkT.cons (ok_iconst (n := 1) cx (by decide +kernel) rfl) <|
  OkT.cons (ok_iadd cx (by decide +kernel)) <|
  OkT.cons (ok_bipush (n := 12) cx (by decide +kernel) rfl) <|
  OkT.cons (ok_irem cx (by decide +kernel)) <|
  OkT.cons (ok_putI fp_RX7_54 (by decide) rfl cx (by decide +kernel)) <|
  OkT.cons (ok_aload_n (kn := 0) rfl cx (by decide +kernel)) <|
  OkT.cons (ok_aload_n (kn := 0) rfl cx (by decide +kernel)) <|
  OkT.cons (ok_getI fg_RX7_44 (by decide) rfl cx (by decide +kernel)) <|
  OkT.cons (ok_iconst (n := 1) cx (by decide +kernel) rfl) <|
  OkT.cons (ok_iadd cx (by decide +kernel)) <|
  OkT.cons (ok_bipush (n := 12) cx (by decide +kernel) rfl) <|
  OkT.cons (ok_min w_529 w_274 w_10 (w_275) cx (by decide +kernel)) <|
  OkT.cons (ok_putI fp_RX7_44 (by decide) rfl cx (by decide +kernel)) <|
  OkT.cons (ok_aload_n (kn := 0) rfl cx (by decide +kernel)) <|
  OkT.cons (ok_getA (k := 0) fg_RX7_9 (by decide) rfl cx (by decide +kernel)) <|
  OkT.cons (ok_iload_n (kn := 1) rfl cx (by decide +kernel)) <|
  OkT.cons (ok_iload_n (kn := 2) rfl cx (by decide +kernel)) <|
  OkT.cons (ok_callN hex rfl ca_RX7_36 hR hA cx (by decide +kernel)) <|
  OkT.cons (ok_aload_n (kn := 0) rfl cx (by decide +kernel)) <|
  OkT.cons (ok_dup cx (by decide +kernel)) <|
  OkT.cons (ok_getI fg_RX7_40 (by decide) rfl cx (by decide +kernel)) <|
  OkT.cons (ok_iload_n (kn := 3) rfl cx (by decide +kernel)) <|
  OkT.cons (ok_iadd cx (by decide +kernel)) <|
  OkT.cons (ok_putI fp_RX7_40 (by decide) rfl cx (by decide +kernel)) <|
  OkT.cons (ok_retV hr (by decide +kernel)) <|
  OkT.nil⟩
def T_X7_takeBack (ex : Ex) : Tb := [(0, oAld 0 1), (1, oGetI 5 5), (4, oIf_ne 9), (7, pS (fPush (.int 0)) 1), (8, oRetZ), (9, oAld 0 1), (10, pS fDup 1), (11, oGetI 5 5), (14, pS (fPush (.int 1)) 1), (15, pS (fB (fun x y => x - y)) 1), (16, oPutI 5 5), (19, oAld 0 1), (20, oAld 0 1), (21, oGetI 5 6), (24, pS (fPush (.int 12)) 2), (26, pS (fB (fun x y => x + y)) 1), (27, pS (fPush (.int 1)) 1), (28, pS (fB (fun x y => x - y)) 1), (29, pS (fPush (.int 12)) 2), (31, pS (fDv (fun x y => x - x / y * y)) 1), (32, oPutI 5 6), (35, oAld 0 1), (36, oGetA 5 1), (39, oAld 0 1), (40, oGetA 5 2), (43, oAld 0 1), (44, oGetI 5 6), (47, oCallS ex 133 2), (50, oAld 0 1), (51, oGetA 5 3), (54, oAld 0 1), (55, oGetI 5 6), (58, oCallS ex 133 2), (61, oCallS ex 134 3), (64, oAld 0 1), (65, oAld 0 1), (66, oGetA 5 4), (69, oAld 0 1), (70, oGetI 5 6), (73, oCallS ex 133 2), (76, oPutI 5 1), (79, pS (fPush (.int 1)) 1), (80, oRetZ)]
set_option maxRecDepth 20000 in
theorem ta_X7_takeBack : TabOk MIS T_X7_takeBack mi_X7_takeBack := ⟨by decide +kernel, fun l d ex hex p e R s m args below meth c cells slots ad D cI cZ A cx hR hA hr =>
  OkT.cons (ok_aload_n (kn := 0) rfl cx (by decide +kernel)) <|
  OkT.cons (ok_getI fg_RX7_44 (by decide) rfl cx (by decide +kernel)) <|
  OkT.cons (ok_If_ne (off := 5) (by decide) cx (by decide +kernel)) <|
  OkT.cons (ok_iconst (n := 0) cx (by decide +kernel) rfl) <|
  OkT.cons (ok_retZ hr (by decide +kernel)) <|
  OkT.cons (ok_aload_n (kn := 0) rfl cx (by decide +kernel)) <|
  OkT.cons (ok_dup cx (by decide +kernel)) <|
  OkT.cons (ok_getI fg_RX7_44 (by decide) rfl cx (by decide +kernel)) <|
  OkT.cons (ok_iconst (n := 1) cx (by decide +kernel) rfl) <|
  OkT.cons (ok_isub cx (by decide +kernel)) <|
  OkT.cons (ok_putI fp_RX7_44 (by decide) rfl cx (by decide +kernel)) <|
  OkT.cons (ok_aload_n (kn := 0) rfl cx (by decide +kernel)) <|
  OkT.cons (ok_aload_n (kn := 0) rfl cx (by decide +kernel)) <|
  OkT.cons (ok_getI fg_RX7_54 (by decide) rfl cx (by decide +kernel)) <|
  OkT.cons (ok_bipush (n := 12) cx (by decide +kernel) rfl) <|
  OkT.cons (ok_iadd cx (by decide +kernel)) <|
  OkT.cons (ok_iconst (n := 1) cx (by decide +kernel) rfl) <|
  OkT.cons (ok_isub cx (by decide +kernel)) <|
  OkT.cons (ok_bipush (n := 12) cx (by decide +kernel) rfl) <|
  OkT.cons (ok_irem cx (by decide +kernel)) <|
  OkT.cons (ok_putI fp_RX7_54 (by decide) rfl cx (by decide +kernel)) <|
  OkT.cons (ok_aload_n (kn := 0) rfl cx (by decide +kernel)) <|
  OkT.cons (ok_getA (k := 0) fg_RX7_9 (by decide) rfl cx (by decide +kernel)) <|
  OkT.cons (ok_aload_n (kn := 0) rfl cx (by decide +kernel)) <|
  OkT.cons (ok_getA (k := 2) fg_RX7_15 (by decide) rfl cx (by decide +kernel)) <|
  OkT.cons (ok_aload_n (kn := 0) rfl cx (by decide +kernel)) <|
  OkT.cons (ok_getI fg_RX7_54 (by decide) rfl cx (by decide +kernel)) <|
  OkT.cons (ok_callN hex rfl ca_RX7_50 hR hA cx (by decide +kernel)) <|
  OkT.cons (ok_aload_n (kn := 0) rfl cx (by decide +kernel)) <|
  OkT.cons (ok_getA (k := 3) fg_RX7_18 (by decide) rfl cx (by decide +kernel)) <|
  OkT.cons (ok_aload_n (kn := 0) rfl cx (by decide +kernel)) <|
  OkT.cons (ok_getI fg_RX7_54 (by decide) rfl cx (by decide +kernel)) <|
  OkT.cons (ok_callN hex rfl ca_RX7_50 hR hA cx (by decide +kernel)) <|
  OkT.cons (ok_callN hex rfl ca_RX7_36 hR hA cx (by decide +kernel)) <|
  OkT.cons (ok_aload_n (kn := 0) rfl cx (by decide +kernel)) <|
  OkT.cons (ok_aload_n (kn := 0) rfl cx (by decide +kernel)) <|
  OkT.cons (ok_getA (k := 4) fg_RX7_21 (by decide) rfl cx (by decide +kernel)) <|
  OkT.cons (ok_aload_n (kn := 0) rfl cx (by decide +kernel)) <|
  OkT.cons (ok_getI fg_RX7_54 (by decide) rfl cx (by decide +kernel)) <|
  OkT.cons (ok_callN hex rfl ca_RX7_50 hR hA cx (by decide +kernel)) <|
  OkT.cons (ok_putI fp_RX7_40 (by decide) rfl cx (by decide +kernel)) <|
  OkT.cons (ok_iconst (n := 1) cx (by decide +kernel) rfl) <|
  OkT.cons (ok_retZ hr (by decide +kernel)) <|
  OkT.nil⟩
def T_X7_humming (ex : Ex) : Tb := [(0, pS (fPush (.int 0)) 1), (1, oIst 2 1), (2, pS (fPush (.int 0)) 1), (3, oIst 3 1), (4, oIld 3 1), (5, oAld 1 1), (6, oCallV ex 54 0 3), (9, oIc_ge 36), (12, oAld 1 1), (13, oAld 0 1), (14, oIld 3 1), (15, oCallV ex 92 1 5), (18, oCallV ex 73 1 3), (21, oIf_eq 30), (24, oIld 2 1), (25, pS (fPush (.int 1)) 1), (26, oIld 3 1), (27, pS (fB (fun x y => x <<< (y &&& 31))) 1), (28, pS (fB (fun x y => x ||| y)) 1), (29, oIst 2 1), (30, oInc 3 1), (33, oGoto 4), (36, oFg [0, 1, 3] (oIld 2 1)), (37, oRetI)]
set_option maxRecDepth 20000 in
theorem ta_X7_humming : TabOk MIS T_X7_humming mi_X7_humming := ⟨by decide +kernel, fun l d ex hex p e R s m args below meth c cells slots ad D cI cZ A cx hR hA hr =>
  OkT.cons (ok_iconst (n := 0) cx (by decide +kernel) rfl) <|
  OkT.cons (ok_istore_n (kn := 2) rfl cx (by decide +kernel)) <|
  OkT.cons (ok_iconst (n := 0) cx (by decide +kernel) rfl) <|
  OkT.cons (ok_istore_n (kn := 3) rfl cx (by decide +kernel)) <|
  OkT.cons (ok_iload_n (kn := 3) rfl cx (by decide +kernel)) <|
  OkT.cons (ok_aload_n (kn := 1) rfl cx (by decide +kernel)) <|
  OkT.cons (ok_callV hex rfl rfl (by decide) ca_RX7_66 hR hA cx (by decide +kernel)) <|
  OkT.cons (ok_Ic_ge (off := 27) (by decide) cx (by decide +kernel)) <|
  OkT.cons (ok_aload_n (kn := 1) rfl cx (by decide +kernel)) <|
  OkT.cons (ok_aload_n (kn := 0) rfl cx (by decide +kernel)) <|
  OkT.cons (ok_iload_n (kn := 3) rfl cx (by decide +kernel)) <|
  OkT.cons (ok_callV hex rfl rfl (by decide) ca_RX7_57 hR hA cx (by decide +kernel)) <|
  OkT.cons (ok_callV hex rfl rfl (by decide) ca_RX7_70 hR hA cx (by decide +kernel)) <|
  OkT.cons (ok_If_eq (off := 9) (by decide) cx (by decide +kernel)) <|
  OkT.cons (ok_iload_n (kn := 2) rfl cx (by decide +kernel)) <|
  OkT.cons (ok_iconst (n := 1) cx (by decide +kernel) rfl) <|
  OkT.cons (ok_iload_n (kn := 3) rfl cx (by decide +kernel)) <|
  OkT.cons (ok_ishl cx (by decide +kernel)) <|
  OkT.cons (ok_ior cx (by decide +kernel)) <|
  OkT.cons (ok_istore_n (kn := 2) rfl cx (by decide +kernel)) <|
  OkT.cons (ok_iinc (n := 1) rfl cx (by decide +kernel)) <|
  OkT.cons (ok_goto (off := (-29)) (by decide) cx (by decide +kernel)) <|
  OkT.cons (ok_fg [0, 1, 3] (ok_iload_n (kn := 2) rfl cx (by decide +kernel))) <|
  OkT.cons (ok_retI hr (by decide +kernel)) <|
  OkT.nil⟩
def T_X7_layers (ex : Ex) : Tb := [(0, pS (fPush (.int 0)) 1), (1, oIst 1 1), (2, pS (fPush (.int 0)) 1), (3, oIst 2 1), (4, oIld 2 1), (5, pS (fPush (.int 4)) 1), (6, oIc_ge 26), (9, oIld 1 1), (10, oAld 0 1), (11, oIld 2 1), (12, oCallV ex 92 1 5), (15, oCallS ex 45 1), (18, pS (fB (fun x y => x + y)) 1), (19, oIst 1 1), (20, oInc 2 1), (23, oGoto 4), (26, oFg [0, 2] (oIld 1 1)), (27, oRetI)]
set_option maxRecDepth 20000 in
theorem ta_X7_layers : TabOk MIS T_X7_layers mi_X7_layers := ⟨by decide +kernel, fun l d ex hex p e R s m args below meth c cells slots ad D cI cZ A cx hR hA hr =>
  OkT.cons (ok_iconst (n := 0) cx (by decide +kernel) rfl) <|
  OkT.cons (ok_istore_n (kn := 1) rfl cx (by decide +kernel)) <|
  OkT.cons (ok_iconst (n := 0) cx (by decide +kernel) rfl) <|
  OkT.cons (ok_istore_n (kn := 2) rfl cx (by decide +kernel)) <|
  OkT.cons (ok_iload_n (kn := 2) rfl cx (by decide +kernel)) <|
  OkT.cons (ok_iconst (n := 4) cx (by decide +kernel) rfl) <|
  OkT.cons (ok_Ic_ge (off := 20) (by decide) cx (by decide +kernel)) <|
  OkT.cons (ok_iload_n (kn := 1) rfl cx (by decide +kernel)) <|
  OkT.cons (ok_aload_n (kn := 0) rfl cx (by decide +kernel)) <|
  OkT.cons (ok_iload_n (kn := 2) rfl cx (by decide +kernel)) <|
  OkT.cons (ok_callV hex rfl rfl (by decide) ca_RX7_57 hR hA cx (by decide +kernel)) <|
  OkT.cons (ok_callS hex rfl ca_RX7_74 hR hA cx (by decide +kernel)) <|
  OkT.cons (ok_iadd cx (by decide +kernel)) <|
  OkT.cons (ok_istore_n (kn := 1) rfl cx (by decide +kernel)) <|
  OkT.cons (ok_iinc (n := 1) rfl cx (by decide +kernel)) <|
  OkT.cons (ok_goto (off := (-19)) (by decide) cx (by decide +kernel)) <|
  OkT.cons (ok_fg [0, 2] (ok_iload_n (kn := 1) rfl cx (by decide +kernel))) <|
  OkT.cons (ok_retI hr (by decide +kernel)) <|
  OkT.nil⟩
def T_X7_layersWith (ex : Ex) : Tb := [(0, pS (fPush (.int 0)) 1), (1, oIst 2 1), (2, pS (fPush (.int 0)) 1), (3, oIst 3 1), (4, oFg [4] (oIld 3 1)), (5, pS (fPush (.int 4)) 1), (6, oIc_ge 52), (9, pS (fPush (.int 0)) 1), (10, oIst 4 2), (12, oIld 4 2), (14, pS (fPush (.int 5)) 1), (15, oIc_ge 46), (18, oIld 2 1), (19, oAld 0 1), (20, oIld 3 1), (21, oCallV ex 92 1 5), (24, oIld 4 2), (26, oCallS ex 43 2), (29, oIld 1 1), (30, oIc_ne 37), (33, pS (fPush (.int 1)) 1), (34, oGoto 38), (37, oFg [2] (pS (fPush (.int 0)) 1)), (38, oFg [2] (pS (fB (fun x y => x + y)) 1)), (39, oIst 2 1), (40, oInc 4 1), (43, oGoto 12), (46, oFg [4] (oInc 3 1)), (49, oGoto 4), (52, oFg [0, 1, 3, 4] (oIld 2 1)), (53, oRetI)]
set_option maxRecDepth 20000 in
theorem ta_X7_layersWith : TabOk MIS T_X7_layersWith mi_X7_layersWith := ⟨by decide +kernel, fun l d ex hex p e R s m args below meth c cells slots ad D cI cZ A cx hR hA hr =>
  OkT.cons (ok_iconst (n := 0) cx (by decide +kernel) rfl) <|
  OkT.cons (ok_istore_n (kn := 2) rfl cx (by decide +kernel)) <|
  OkT.cons (ok_iconst (n := 0) cx (by decide +kernel) rfl) <|
  OkT.cons (ok_istore_n (kn := 3) rfl cx (by decide +kernel)) <|
  OkT.cons (ok_fg [4] (ok_iload_n (kn := 3) rfl cx (by decide +kernel))) <|
  OkT.cons (ok_iconst (n := 4) cx (by decide +kernel) rfl) <|
  OkT.cons (ok_Ic_ge (off := 46) (by decide) cx (by decide +kernel)) <|
  OkT.cons (ok_iconst (n := 0) cx (by decide +kernel) rfl) <|
  OkT.cons (ok_istore cx (by decide +kernel)) <|
  OkT.cons (ok_iload cx (by decide +kernel)) <|
  OkT.cons (ok_iconst (n := 5) cx (by decide +kernel) rfl) <|
  OkT.cons (ok_Ic_ge (off := 31) (by decide) cx (by decide +kernel)) <|
  OkT.cons (ok_iload_n (kn := 2) rfl cx (by decide +kernel)) <|
  OkT.cons (ok_aload_n (kn := 0) rfl cx (by decide +kernel)) <|
  OkT.cons (ok_iload_n (kn := 3) rfl cx (by decide +kernel)) <|
  OkT.cons (ok_callV hex rfl rfl (by decide) ca_RX7_57 hR hA cx (by decide +kernel)) <|
  OkT.cons (ok_iload cx (by decide +kernel)) <|
  OkT.cons (ok_callS hex rfl ca_RX7_79 hR hA cx (by decide +kernel)) <|
  OkT.cons (ok_iload_n (kn := 1) rfl cx (by decide +kernel)) <|
  OkT.cons (ok_Ic_ne (off := 7) (by decide) cx (by decide +kernel)) <|
  OkT.cons (ok_iconst (n := 1) cx (by decide +kernel) rfl) <|
  OkT.cons (ok_goto (off := 4) (by decide) cx (by decide +kernel)) <|
  OkT.cons (ok_fg [2] (ok_iconst (n := 0) cx (by decide +kernel) rfl)) <|
  OkT.cons (ok_fg [2] (ok_iadd cx (by decide +kernel))) <|
  OkT.cons (ok_istore_n (kn := 2) rfl cx (by decide +kernel)) <|
  OkT.cons (ok_iinc (n := 1) rfl cx (by decide +kernel)) <|
  OkT.cons (ok_goto (off := (-31)) (by decide) cx (by decide +kernel)) <|
  OkT.cons (ok_fg [4] (ok_iinc (n := 1) rfl cx (by decide +kernel))) <|
  OkT.cons (ok_goto (off := (-45)) (by decide) cx (by decide +kernel)) <|
  OkT.cons (ok_fg [0, 1, 3, 4] (ok_iload_n (kn := 2) rfl cx (by decide +kernel))) <|
  OkT.cons (ok_retI hr (by decide +kernel)) <|
  OkT.nil⟩
def T_X7_keepImage (ex : Ex) : Tb := [(0, pS (fPush (.int 0)) 1), (1, oIst 2 1), (2, oIld 2 1), (3, pS (fPush (.int 4)) 1), (4, oIc_ge 30), (7, oAld 0 1), (8, oGetA 5 5), (11, oIld 1 1), (12, pS (fPush (.int 4)) 1), (13, pS (fB (fun x y => x * y)) 1), (14, oIld 2 1), (15, pS (fB (fun x y => x + y)) 1), (16, oAld 0 1), (17, oIld 2 1), (18, oCallV ex 92 1 5), (21, oCallS ex 134 3), (24, oInc 2 1), (27, oGoto 2), (30, oFg [2] (oAld 0 1)), (31, oGetA 5 6), (34, oIld 1 1), (35, oAld 0 1), (36, oGetI 5 1), (39, oCallS ex 134 3), (42, oAld 0 1), (43, pS fDup 1), (44, oGetI 5 9), (47, pS (fPush (.int 1)) 1), (48, oIld 1 1), (49, pS (fB (fun x y => x <<< (y &&& 31))) 1), (50, pS (fB (fun x y => x ||| y)) 1), (51, oPutI 5 9), (54, oRetV)]
set_option maxRecDepth 20000 in
theorem ta_X7_keepImage : TabOk MIS T_X7_keepImage mi_X7_keepImage := ⟨by decide +kernel, fun l d ex hex p e R s m args below meth c cells slots ad D cI cZ A cx hR hA hr =>
  OkT.cons (ok_iconst (n := 0) cx (by decide +kernel) rfl) <|
  OkT.cons (ok_istore_n (kn := 2) rfl cx (by decide +kernel)) <|
  OkT.cons (ok_iload_n (kn := 2) rfl cx (by decide +kernel)) <|
  OkT.cons (ok_iconst (n := 4) cx (by decide +kernel) rfl) <|
  OkT.cons (ok_Ic_ge (off := 26) (by decide) cx (by decide +kernel)) <|
  OkT.cons (ok_aload_n (kn := 0) rfl cx (by decide +kernel)) <|
  OkT.cons (ok_getA (k := 7) fg_RX7_24 (by decide) rfl cx (by decide +kernel)) <|
  OkT.cons (ok_iload_n (kn := 1) rfl cx (by decide +kernel)) <|
  OkT.cons (ok_iconst (n := 4) cx (by decide +kernel) rfl) <|
  OkT.cons (ok_imul cx (by decide +kernel)) <|
  OkT.cons (ok_iload_n (kn := 2) rfl cx (by decide +kernel)) <|
  OkT.cons (ok_iadd cx (by decide +kernel)) <|
  OkT.cons (ok_aload_n (kn := 0) rfl cx (by decide +kernel)) <|
  OkT.cons (ok_iload_n (kn := 2) rfl cx (by decide +kernel)) <|
  OkT.cons (ok_callV hex rfl rfl (by decide) ca_RX7_57 hR hA cx (by decide +kernel)) <|
  OkT.cons (ok_callN hex rfl ca_RX7_36 hR hA cx (by decide +kernel)) <|
  OkT.cons (ok_iinc (n := 1) rfl cx (by decide +kernel)) <|
  OkT.cons (ok_goto (off := (-25)) (by decide) cx (by decide +kernel)) <|
  OkT.cons (ok_fg [2] (ok_aload_n (kn := 0) rfl cx (by decide +kernel))) <|
  OkT.cons (ok_getA (k := 8) fg_RX7_27 (by decide) rfl cx (by decide +kernel)) <|
  OkT.cons (ok_iload_n (kn := 1) rfl cx (by decide +kernel)) <|
  OkT.cons (ok_aload_n (kn := 0) rfl cx (by decide +kernel)) <|
  OkT.cons (ok_getI fg_RX7_40 (by decide) rfl cx (by decide +kernel)) <|
  OkT.cons (ok_callN hex rfl ca_RX7_36 hR hA cx (by decide +kernel)) <|
  OkT.cons (ok_aload_n (kn := 0) rfl cx (by decide +kernel)) <|
  OkT.cons (ok_dup cx (by decide +kernel)) <|
  OkT.cons (ok_getI fg_RX7_47 (by decide) rfl cx (by decide +kernel)) <|
  OkT.cons (ok_iconst (n := 1) cx (by decide +kernel) rfl) <|
  OkT.cons (ok_iload_n (kn := 1) rfl cx (by decide +kernel)) <|
  OkT.cons (ok_ishl cx (by decide +kernel)) <|
  OkT.cons (ok_ior cx (by decide +kernel)) <|
  OkT.cons (ok_putI fp_RX7_47 (by decide) rfl cx (by decide +kernel)) <|
  OkT.cons (ok_retV hr (by decide +kernel)) <|
  OkT.nil⟩
def T_X7_becomeImage (ex : Ex) : Tb := [(0, oAld 0 1), (1, oGetI 5 9), (4, oIld 1 1), (5, pS (fB (fun x y => x >>> (y &&& 31))) 1), (6, pS (fPush (.int 1)) 1), (7, pS (fB (fun x y => x &&& y)) 1), (8, oIf_ne 13), (11, pS (fPush (.int 0)) 1), (12, oRetZ), (13, oFg [2] (pS (fPush (.int 0)) 1)), (14, oIst 2 1), (15, oIld 2 1), (16, pS (fPush (.int 4)) 1), (17, oIc_ge 46), (20, oAld 0 1), (21, oGetA 5 1), (24, oIld 2 1), (25, oAld 0 1), (26, oGetA 5 5), (29, oIld 1 1), (30, pS (fPush (.int 4)) 1), (31, pS (fB (fun x y => x * y)) 1), (32, oIld 2 1), (33, pS (fB (fun x y => x + y)) 1), (34, oCallS ex 133 2), (37, oCallS ex 134 3), (40, oInc 2 1), (43, oGoto 15), (46, oFg [2] (oAld 0 1)), (47, oAld 0 1), (48, oGetA 5 6), (51, oIld 1 1), (52, oCallS ex 133 2), (55, oPutI 5 1), (58, oAld 0 1), (59, pS (fPush (.int 0)) 1), (60, oPutI 5 5), (63, pS (fPush (.int 1)) 1), (64, oRetZ)]
set_option maxRecDepth 20000 in
theorem ta_X7_becomeImage : TabOk MIS T_X7_becomeImage mi_X7_becomeImage := ⟨by decide +kernel, fun l d ex hex p e R s m args below meth c cells slots ad D cI cZ A cx hR hA hr =>
  OkT.cons (ok_aload_n (kn := 0) rfl cx (by decide +kernel)) <|
  OkT.cons (ok_getI fg_RX7_47 (by decide) rfl cx (by decide +kernel)) <|
  OkT.cons (ok_iload_n (kn := 1) rfl cx (by decide +kernel)) <|
  OkT.cons (ok_ishr cx (by decide +kernel)) <|
  OkT.cons (ok_iconst (n := 1) cx (by decide +kernel) rfl) <|
  OkT.cons (ok_iand cx (by decide +kernel)) <|
  OkT.cons (ok_If_ne (off := 5) (by decide) cx (by decide +kernel)) <|
  OkT.cons (ok_iconst (n := 0) cx (by decide +kernel) rfl) <|
  OkT.cons (ok_retZ hr (by decide +kernel)) <|
  OkT.cons (ok_fg [2] (ok_iconst (n := 0) cx (by decide +kernel) rfl)) <|
  OkT.cons (ok_istore_n (kn := 2) rfl cx (by decide +kernel)) <|
  OkT.cons (ok_iload_n (kn := 2) rfl cx (by decide +kernel)) <|
  OkT.cons (ok_iconst (n := 4) cx (by decide +kernel) rfl) <|
  OkT.cons (ok_Ic_ge (off := 29) (by decide) cx (by decide +kernel)) <|
  OkT.cons (ok_aload_n (kn := 0) rfl cx (by decide +kernel)) <|
  OkT.cons (ok_getA (k := 0) fg_RX7_9 (by decide) rfl cx (by decide +kernel)) <|
  OkT.cons (ok_iload_n (kn := 2) rfl cx (by decide +kernel)) <|
  OkT.cons (ok_aload_n (kn := 0) rfl cx (by decide +kernel)) <|
  OkT.cons (ok_getA (k := 7) fg_RX7_24 (by decide) rfl cx (by decide +kernel)) <|
  OkT.cons (ok_iload_n (kn := 1) rfl cx (by decide +kernel)) <|
  OkT.cons (ok_iconst (n := 4) cx (by decide +kernel) rfl) <|
  OkT.cons (ok_imul cx (by decide +kernel)) <|
  OkT.cons (ok_iload_n (kn := 2) rfl cx (by decide +kernel)) <|
  OkT.cons (ok_iadd cx (by decide +kernel)) <|
  OkT.cons (ok_callN hex rfl ca_RX7_50 hR hA cx (by decide +kernel)) <|
  OkT.cons (ok_callN hex rfl ca_RX7_36 hR hA cx (by decide +kernel)) <|
  OkT.cons (ok_iinc (n := 1) rfl cx (by decide +kernel)) <|
  OkT.cons (ok_goto (off := (-28)) (by decide) cx (by decide +kernel)) <|
  OkT.cons (ok_fg [2] (ok_aload_n (kn := 0) rfl cx (by decide +kernel))) <|
  OkT.cons (ok_aload_n (kn := 0) rfl cx (by decide +kernel)) <|
  OkT.cons (ok_getA (k := 8) fg_RX7_27 (by decide) rfl cx (by decide +kernel)) <|
  OkT.cons (ok_iload_n (kn := 1) rfl cx (by decide +kernel)) <|
  OkT.cons (ok_callN hex rfl ca_RX7_50 hR hA cx (by decide +kernel)) <|
  OkT.cons (ok_putI fp_RX7_40 (by decide) rfl cx (by decide +kernel)) <|
  OkT.cons (ok_aload_n (kn := 0) rfl cx (by decide +kernel)) <|
  OkT.cons (ok_iconst (n := 0) cx (by decide +kernel) rfl) <|
  OkT.cons (ok_putI fp_RX7_44 (by decide) rfl cx (by decide +kernel)) <|
  OkT.cons (ok_iconst (n := 1) cx (by decide +kernel) rfl) <|
  OkT.cons (ok_retZ hr (by decide +kernel)) <|
  OkT.nil⟩
def T_X8_type (ex : Ex) : Tb := [(0, oIld 3 1), (1, pS (fPush (.int 1)) 1), (2, oIc_lt 11), (5, oIld 3 1), (6, pS (fPush (.int 8)) 2), (8, oIc_le 13), (11, oFg [0, 1, 3, 4] (pS (fPush (.int (-1))) 1)), (12, oRetI), (13, oFg [4] (oAld 0 1)), (14, oGetA 6 1), (17, oIld 3 1), (18, oCallV ex 21 1 2), (21, oIf_ne 27), (24, pS (fPush (.int (-3))) 2), (26, oRetI), (27, oFg [4] (oIld 3 1)), (28, pS (fPush (.int 1)) 1), (29, pS (fB (fun x y => x - y)) 1), (30, oIst 4 2), (32, oFg [3] (oIld 4 2)), (34, oIf_lt 62), (37, oAld 0 1), (38, oGetA 6 1), (41, oLld 1 1), (42, pS (fPush (.int 8)) 2), (44, oIld 4 2), (46, pS (fB (fun x y => x * y)) 1), (47, pS (fSL (fun x y => (x.toUInt64 >>> (y.toInt64.toUInt64 &&& Int64.toUInt64 63)).toInt64)) 1), (48, pS fL2i 1), (49, pS (fPush (.int 255)) 3), (52, pS (fB (fun x y => x &&& y)) 1), (53, oCallV ex 22 1 2), (56, oInc 4 (-1)), (59, oGoto 32), (62, oFg [1, 3, 4] (oAld 0 1)), (63, oGetA 6 1), (66, oCallV ex 19 0 2), (69, oRetI)]
set_option maxRecDepth 20000 in
theorem ta_X8_type : TabOk MIS T_X8_type mi_X8_type := ⟨by decide +kernel, fun l d ex hex p e R s m args below meth c cells slots ad D cI cZ A cx hR hA hr =>
  OkT.cons (ok_iload_n (kn := 3) rfl cx (by decide +kernel)) <|
  OkT.cons (ok_iconst (n := 1) cx (by decide +kernel) rfl) <|
  OkT.cons (ok_Ic_lt (off := 9) (by decide) cx (by decide +kernel)) <|
  OkT.cons (ok_iload_n (kn := 3) rfl cx (by decide +kernel)) <|
  OkT.cons (ok_bipush (n := 8) cx (by decide +kernel) rfl) <|
  OkT.cons (ok_Ic_le (off := 5) (by decide) cx (by decide +kernel)) <|
  OkT.cons (ok_fg [0, 1, 3, 4] (ok_iconst (n := (-1)) cx (by decide +kernel) rfl)) <|
  OkT.cons (ok_retI hr (by decide +kernel)) <|
  OkT.cons (ok_fg [4] (ok_aload_n (kn := 0) rfl cx (by decide +kernel))) <|
  OkT.cons (ok_getA (k := 0) fg_RX8_10 (by decide) rfl cx (by decide +kernel)) <|
  OkT.cons (ok_iload_n (kn := 3) rfl cx (by decide +kernel)) <|
  OkT.cons (ok_callV hex rfl rfl (by decide) ca_RX8_54 hR hA cx (by decide +kernel)) <|
  OkT.cons (ok_If_ne (off := 6) (by decide) cx (by decide +kernel)) <|
  OkT.cons (ok_bipush (n := (-3)) cx (by decide +kernel) rfl) <|
  OkT.cons (ok_retI hr (by decide +kernel)) <|
  OkT.cons (ok_fg [4] (ok_iload_n (kn := 3) rfl cx (by decide +kernel))) <|
  OkT.cons (ok_iconst (n := 1) cx (by decide +kernel) rfl) <|
  OkT.cons (ok_isub cx (by decide +kernel)) <|
  OkT.cons (ok_istore cx (by decide +kernel)) <|
  OkT.cons (ok_fg [3] (ok_iload cx (by decide +kernel))) <|
  OkT.cons (ok_If_lt (off := 28) (by decide) cx (by decide +kernel)) <|
  OkT.cons (ok_aload_n (kn := 0) rfl cx (by decide +kernel)) <|
  OkT.cons (ok_getA (k := 0) fg_RX8_10 (by decide) rfl cx (by decide +kernel)) <|
  OkT.cons (ok_lload_n (kn := 1) rfl cx (by decide +kernel)) <|
  OkT.cons (ok_bipush (n := 8) cx (by decide +kernel) rfl) <|
  OkT.cons (ok_iload cx (by decide +kernel)) <|
  OkT.cons (ok_imul cx (by decide +kernel)) <|
  OkT.cons (ok_lushr cx (by decide +kernel)) <|
  OkT.cons (ok_l2i cx (by decide +kernel)) <|
  OkT.cons (ok_sipush (n := 255) cx (by decide +kernel) rfl) <|
  OkT.cons (ok_iand cx (by decide +kernel)) <|
  OkT.cons (ok_callV hex rfl rfl (by decide) ca_RX8_58 hR hA cx (by decide +kernel)) <|
  OkT.cons (ok_iinc (n := (-1)) rfl cx (by decide +kernel)) <|
  OkT.cons (ok_goto (off := (-27)) (by decide) cx (by decide +kernel)) <|
  OkT.cons (ok_fg [1, 3, 4] (ok_aload_n (kn := 0) rfl cx (by decide +kernel))) <|
  OkT.cons (ok_getA (k := 0) fg_RX8_10 (by decide) rfl cx (by decide +kernel)) <|
  OkT.cons (ok_callV hex rfl rfl (by decide) ca_RX8_62 hR hA cx (by decide +kernel)) <|
  OkT.cons (ok_retI hr (by decide +kernel)) <|
  OkT.nil⟩
def T_X8_clear (ex : Ex) : Tb := [(0, oAld 0 1), (1, oGetA 6 1), (4, oCallV ex 19 0 2), (7, oIst 1 1), (8, oAld 0 1), (9, oGetA 6 1), (12, oCallV ex 20 0 2), (15, oIld 1 1), (16, oRetI)]
set_option maxRecDepth 20000 in
theorem ta_X8_clear : TabOk MIS T_X8_clear mi_X8_clear := ⟨by decide +kernel, fun l d ex hex p e R s m args below meth c cells slots ad D cI cZ A cx hR hA hr =>
  OkT.cons (ok_aload_n (kn := 0) rfl cx (by decide +kernel)) <|
  OkT.cons (ok_getA (k := 0) fg_RX8_10 (by decide) rfl cx (by decide +kernel)) <|
  OkT.cons (ok_callV hex rfl rfl (by decide) ca_RX8_62 hR hA cx (by decide +kernel)) <|
  OkT.cons (ok_istore_n (kn := 1) rfl cx (by decide +kernel)) <|
  OkT.cons (ok_aload_n (kn := 0) rfl cx (by decide +kernel)) <|
  OkT.cons (ok_getA (k := 0) fg_RX8_10 (by decide) rfl cx (by decide +kernel)) <|
  OkT.cons (ok_callV hex rfl rfl (by decide) ca_RX8_66 hR hA cx (by decide +kernel)) <|
  OkT.cons (ok_iload_n (kn := 1) rfl cx (by decide +kernel)) <|
  OkT.cons (ok_retI hr (by decide +kernel)) <|
  OkT.nil⟩
def T_X8_school (ex : Ex) : Tb := [(0, oAld 0 1), (1, oGetA 6 1), (4, oAld 0 1), (5, oGetD 6 6), (8, oCallV ex 23 1 2), (11, oIst 1 1), (12, oIld 1 1), (13, oIf_ge 18), (16, oIld 1 1), (17, oRetI), (18, oFg [2] (oAld 0 1)), (19, oGetD 6 6), (22, oAst 2 1), (23, oAld 0 1), (24, oAld 0 1), (25, oGetD 6 5), (28, oPutD 6 6), (31, oAld 0 1), (32, oAld 2 1), (33, oPutD 6 5), (36, oAld 0 1), (37, oGetA 6 4), (40, oAld 0 1), (41, oGetD 6 5), (44, oCallV ex 91 1 5), (47, oAld 0 1), (48, oGetA 6 15), (51, oCallV ex 3 0 0), (54, oAld 0 1), (55, oGetA 6 1), (58, oCallV ex 20 0 2), (61, oIld 1 1), (62, oRetI)]
set_option maxRecDepth 20000 in
theorem ta_X8_school : TabOk MIS T_X8_school mi_X8_school := ⟨by decide +kernel, fun l d ex hex p e R s m args below meth c cells slots ad D cI cZ A cx hR hA hr =>
  OkT.cons (ok_aload_n (kn := 0) rfl cx (by decide +kernel)) <|
  OkT.cons (ok_getA (k := 0) fg_RX8_10 (by decide) rfl cx (by decide +kernel)) <|
  OkT.cons (ok_aload_n (kn := 0) rfl cx (by decide +kernel)) <|
  OkT.cons (ok_getD fg_RX8_51 (by decide) rfl cx (by decide +kernel)) <|
  OkT.cons (ok_callV hex rfl rfl (by decide) ca_RX8_69 hR hA cx (by decide +kernel)) <|
  OkT.cons (ok_istore_n (kn := 1) rfl cx (by decide +kernel)) <|
  OkT.cons (ok_iload_n (kn := 1) rfl cx (by decide +kernel)) <|
  OkT.cons (ok_If_ge (off := 5) (by decide) cx (by decide +kernel)) <|
  OkT.cons (ok_iload_n (kn := 1) rfl cx (by decide +kernel)) <|
  OkT.cons (ok_retI hr (by decide +kernel)) <|
  OkT.cons (ok_fg [2] (ok_aload_n (kn := 0) rfl cx (by decide +kernel))) <|
  OkT.cons (ok_getD fg_RX8_51 (by decide) rfl cx (by decide +kernel)) <|
  OkT.cons (ok_astore_n (kn := 2) rfl cx (by decide +kernel)) <|
  OkT.cons (ok_aload_n (kn := 0) rfl cx (by decide +kernel)) <|
  OkT.cons (ok_aload_n (kn := 0) rfl cx (by decide +kernel)) <|
  OkT.cons (ok_getD fg_RX8_47 (by decide) rfl cx (by decide +kernel)) <|
  OkT.cons (ok_putD fp_RX8_51 (by decide) rfl cx (by decide +kernel)) <|
  OkT.cons (ok_aload_n (kn := 0) rfl cx (by decide +kernel)) <|
  OkT.cons (ok_aload_n (kn := 2) rfl cx (by decide +kernel)) <|
  OkT.cons (ok_putD fp_RX8_47 (by decide) rfl cx (by decide +kernel)) <|
  OkT.cons (ok_aload_n (kn := 0) rfl cx (by decide +kernel)) <|
  OkT.cons (ok_getA (k := 1) fg_RX8_19 (by decide) rfl cx (by decide +kernel)) <|
  OkT.cons (ok_aload_n (kn := 0) rfl cx (by decide +kernel)) <|
  OkT.cons (ok_getD fg_RX8_47 (by decide) rfl cx (by decide +kernel)) <|
  OkT.cons (ok_callV hex rfl rfl (by decide) ca_RX8_73 hR hA cx (by decide +kernel)) <|
  OkT.cons (ok_aload_n (kn := 0) rfl cx (by decide +kernel)) <|
  OkT.cons (ok_getA (k := 3) fg_RX8_33 (by decide) rfl cx (by decide +kernel)) <|
  OkT.cons (ok_callV hex rfl rfl (by decide) ca_RX8_77 hR hA cx (by decide +kernel)) <|
  OkT.cons (ok_aload_n (kn := 0) rfl cx (by decide +kernel)) <|
  OkT.cons (ok_getA (k := 0) fg_RX8_10 (by decide) rfl cx (by decide +kernel)) <|
  OkT.cons (ok_callV hex rfl rfl (by decide) ca_RX8_66 hR hA cx (by decide +kernel)) <|
  OkT.cons (ok_iload_n (kn := 1) rfl cx (by decide +kernel)) <|
  OkT.cons (ok_retI hr (by decide +kernel)) <|
  OkT.nil⟩
def T_X8_spell (ex : Ex) : Tb := [(0, oAld 0 1), (1, oGetD 6 5), (4, oIld 1 1), (5, oCallV ex 59 1 3), (8, oIf_ne 13), (11, pS (fPush (.int (-1))) 1), (12, oRetI), (13, oIld 2 1), (14, oTsw [(0, 44), (1, 53), (2, 70), (3, 79)] 88), (44, oFg [2] (oAld 0 1)), (45, oGetD 6 5), (48, oIld 1 1), (49, oCallV ex 63 1 3), (52, oRetI), (53, oFg [2] (oAld 0 1)), (54, oGetD 6 5), (57, oIld 1 1), (58, oCallV ex 64 1 3), (61, oIf_eq 68), (64, pS (fPush (.int 1)) 1), (65, oGoto 69), (68, oFg [0, 1, 2] (pS (fPush (.int 0)) 1)), (69, oFg [0, 1, 2] (oRetI)), (70, oFg [2] (oAld 0 1)), (71, oGetD 6 5), (74, oIld 1 1), (75, oCallV ex 65 1 3), (78, oRetI), (79, oFg [2] (oAld 0 1)), (80, oGetD 6 5), (83, oIld 1 1), (84, oCallV ex 66 1 3), (87, oRetI), (88, oFg [0, 1, 2] (pS (fPush (.int (-1))) 1)), (89, oRetI)]
set_option maxRecDepth 20000 in
theorem ta_X8_spell : TabOk MIS T_X8_spell mi_X8_spell := ⟨by decide +kernel, fun l d ex hex p e R s m args below meth c cells slots ad D cI cZ A cx hR hA hr =>
  OkT.cons (ok_aload_n (kn := 0) rfl cx (by decide +kernel)) <|
  OkT.cons (ok_getD fg_RX8_47 (by decide) rfl cx (by decide +kernel)) <|
  OkT.cons (ok_iload_n (kn := 1) rfl cx (by decide +kernel)) <|
  OkT.cons (ok_callV hex rfl rfl (by decide) ca_RX8_80 hR hA cx (by decide +kernel)) <|
  OkT.cons (ok_If_ne (off := 5) (by decide) cx (by decide +kernel)) <|
  OkT.cons (ok_iconst (n := (-1)) cx (by decide +kernel) rfl) <|
  OkT.cons (ok_retI hr (by decide +kernel)) <|
  OkT.cons (ok_iload_n (kn := 2) rfl cx (by decide +kernel)) <|
  OkT.cons (ok_tsw (dflt := 74) (lo := 0) (hi := 3) (offs := #[30, 39, 56, 65]) (len := 30) (by decide +kernel) cx (by decide +kernel)) <|
  OkT.cons (ok_fg [2] (ok_aload_n (kn := 0) rfl cx (by decide +kernel))) <|
  OkT.cons (ok_getD fg_RX8_47 (by decide) rfl cx (by decide +kernel)) <|
  OkT.cons (ok_iload_n (kn := 1) rfl cx (by decide +kernel)) <|
  OkT.cons (ok_callV hex rfl rfl (by decide) ca_RX8_83 hR hA cx (by decide +kernel)) <|
  OkT.cons (ok_retI hr (by decide +kernel)) <|
  OkT.cons (ok_fg [2] (ok_aload_n (kn := 0) rfl cx (by decide +kernel))) <|
  OkT.cons (ok_getD fg_RX8_47 (by decide) rfl cx (by decide +kernel)) <|
  OkT.cons (ok_iload_n (kn := 1) rfl cx (by decide +kernel)) <|
  OkT.cons (ok_callV hex rfl rfl (by decide) ca_RX8_87 hR hA cx (by decide +kernel)) <|
  OkT.cons (ok_If_eq (off := 7) (by decide) cx (by decide +kernel)) <|
  OkT.cons (ok_iconst (n := 1) cx (by decide +kernel) rfl) <|
  OkT.cons (ok_goto (off := 4) (by decide) cx (by decide +kernel)) <|
  OkT.cons (ok_fg [0, 1, 2] (ok_iconst (n := 0) cx (by decide +kernel) rfl)) <|
  OkT.cons (ok_fg [0, 1, 2] (ok_retI hr (by decide +kernel))) <|
  OkT.cons (ok_fg [2] (ok_aload_n (kn := 0) rfl cx (by decide +kernel))) <|
  OkT.cons (ok_getD fg_RX8_47 (by decide) rfl cx (by decide +kernel)) <|
  OkT.cons (ok_iload_n (kn := 1) rfl cx (by decide +kernel)) <|
  OkT.cons (ok_callV hex rfl rfl (by decide) ca_RX8_90 hR hA cx (by decide +kernel)) <|
  OkT.cons (ok_retI hr (by decide +kernel)) <|
  OkT.cons (ok_fg [2] (ok_aload_n (kn := 0) rfl cx (by decide +kernel))) <|
  OkT.cons (ok_getD fg_RX8_47 (by decide) rfl cx (by decide +kernel)) <|
  OkT.cons (ok_iload_n (kn := 1) rfl cx (by decide +kernel)) <|
  OkT.cons (ok_callV hex rfl rfl (by decide) ca_RX8_93 hR hA cx (by decide +kernel)) <|
  OkT.cons (ok_retI hr (by decide +kernel)) <|
  OkT.cons (ok_fg [0, 1, 2] (ok_iconst (n := (-1)) cx (by decide +kernel) rfl)) <|
  OkT.cons (ok_retI hr (by decide +kernel)) <|
  OkT.nil⟩
def T_X8_thing (ex : Ex) : Tb := [(0, oAld 0 1), (1, oGetD 6 5), (4, oIld 1 1), (5, oCallV ex 60 1 3), (8, oIf_ne 13), (11, pS (fPush (.int (-1))) 1), (12, oRetI), (13, oFg [3] (oAld 0 1)), (14, oGetA 6 4), (17, oIld 1 1), (18, oCallV ex 92 1 5), (21, oIst 3 1), (22, oIld 2 1), (23, oTsw [(0, 48), (1, 53), (2, 62)] 79), (48, oFg [0, 1, 2] (oIld 3 1)), (49, oCallS ex 45 1), (52, oRetI), (53, oFg [1, 2] (oAld 0 1)), (54, oGetD 6 5), (57, oIld 3 1), (58, oCallV ex 75 1 3), (61, oRetI), (62, oFg [1, 2] (oAld 0 1)), (63, oGetD 6 5), (66, oIld 3 1), (67, oCallV ex 73 1 3), (70, oIf_eq 77), (73, pS (fPush (.int 1)) 1), (74, oGoto 78), (77, oFg [0, 1, 2, 3] (pS (fPush (.int 0)) 1)), (78, oFg [0, 1, 2, 3] (oRetI)), (79, oFg [0, 1, 2, 3] (pS (fPush (.int (-1))) 1)), (80, oRetI)]
set_option maxRecDepth 20000 in
theorem ta_X8_thing : TabOk MIS T_X8_thing mi_X8_thing := ⟨by decide +kernel, fun l d ex hex p e R s m args below meth c cells slots ad D cI cZ A cx hR hA hr =>
  OkT.cons (ok_aload_n (kn := 0) rfl cx (by decide +kernel)) <|
  OkT.cons (ok_getD fg_RX8_47 (by decide) rfl cx (by decide +kernel)) <|
  OkT.cons (ok_iload_n (kn := 1) rfl cx (by decide +kernel)) <|
  OkT.cons (ok_callV hex rfl rfl (by decide) ca_RX8_96 hR hA cx (by decide +kernel)) <|
  OkT.cons (ok_If_ne (off := 5) (by decide) cx (by decide +kernel)) <|
  OkT.cons (ok_iconst (n := (-1)) cx (by decide +kernel) rfl) <|
  OkT.cons (ok_retI hr (by decide +kernel)) <|
  OkT.cons (ok_fg [3] (ok_aload_n (kn := 0) rfl cx (by decide +kernel))) <|
  OkT.cons (ok_getA (k := 1) fg_RX8_19 (by decide) rfl cx (by decide +kernel)) <|
  OkT.cons (ok_iload_n (kn := 1) rfl cx (by decide +kernel)) <|
  OkT.cons (ok_callV hex rfl rfl (by decide) ca_RX8_99 hR hA cx (by decide +kernel)) <|
  OkT.cons (ok_istore_n (kn := 3) rfl cx (by decide +kernel)) <|
  OkT.cons (ok_iload_n (kn := 2) rfl cx (by decide +kernel)) <|
  OkT.cons (ok_tsw (dflt := 56) (lo := 0) (hi := 2) (offs := #[25, 30, 39]) (len := 25) (by decide +kernel) cx (by decide +kernel)) <|
  OkT.cons (ok_fg [0, 1, 2] (ok_iload_n (kn := 3) rfl cx (by decide +kernel))) <|
  OkT.cons (ok_callS hex rfl ca_RX8_102 hR hA cx (by decide +kernel)) <|
  OkT.cons (ok_retI hr (by decide +kernel)) <|
  OkT.cons (ok_fg [1, 2] (ok_aload_n (kn := 0) rfl cx (by decide +kernel))) <|
  OkT.cons (ok_getD fg_RX8_47 (by decide) rfl cx (by decide +kernel)) <|
  OkT.cons (ok_iload_n (kn := 3) rfl cx (by decide +kernel)) <|
  OkT.cons (ok_callV hex rfl rfl (by decide) ca_RX8_107 hR hA cx (by decide +kernel)) <|
  OkT.cons (ok_retI hr (by decide +kernel)) <|
  OkT.cons (ok_fg [1, 2] (ok_aload_n (kn := 0) rfl cx (by decide +kernel))) <|
  OkT.cons (ok_getD fg_RX8_47 (by decide) rfl cx (by decide +kernel)) <|
  OkT.cons (ok_iload_n (kn := 3) rfl cx (by decide +kernel)) <|
  OkT.cons (ok_callV hex rfl rfl (by decide) ca_RX8_110 hR hA cx (by decide +kernel)) <|
  OkT.cons (ok_If_eq (off := 7) (by decide) cx (by decide +kernel)) <|
  OkT.cons (ok_iconst (n := 1) cx (by decide +kernel) rfl) <|
  OkT.cons (ok_goto (off := 4) (by decide) cx (by decide +kernel)) <|
  OkT.cons (ok_fg [0, 1, 2, 3] (ok_iconst (n := 0) cx (by decide +kernel) rfl)) <|
  OkT.cons (ok_fg [0, 1, 2, 3] (ok_retI hr (by decide +kernel))) <|
  OkT.cons (ok_fg [0, 1, 2, 3] (ok_iconst (n := (-1)) cx (by decide +kernel) rfl)) <|
  OkT.cons (ok_retI hr (by decide +kernel)) <|
  OkT.nil⟩
def T_X8_layer (ex : Ex) : Tb := [(0, oAld 0 1), (1, oGetD 6 5), (4, oIld 1 1), (5, oCallV ex 60 1 3), (8, oIf_eq 15), (11, oIld 2 1), (12, oIf_ge 17), (15, oFg [0, 1, 2] (pS (fPush (.int (-1))) 1)), (16, oRetI), (17, oAld 0 1), (18, oGetA 6 4), (21, oIld 1 1), (22, oCallV ex 92 1 5), (25, oIld 2 1), (26, oCallS ex 43 2), (29, oRetI)]
set_option maxRecDepth 20000 in
theorem ta_X8_layer : TabOk MIS T_X8_layer mi_X8_layer := ⟨by decide +kernel, fun l d ex hex p e R s m args below meth c cells slots ad D cI cZ A cx hR hA hr =>
  OkT.cons (ok_aload_n (kn := 0) rfl cx (by decide +kernel)) <|
  OkT.cons (ok_getD fg_RX8_47 (by decide) rfl cx (by decide +kernel)) <|
  OkT.cons (ok_iload_n (kn := 1) rfl cx (by decide +kernel)) <|
  OkT.cons (ok_callV hex rfl rfl (by decide) ca_RX8_96 hR hA cx (by decide +kernel)) <|
  OkT.cons (ok_If_eq (off := 7) (by decide) cx (by decide +kernel)) <|
  OkT.cons (ok_iload_n (kn := 2) rfl cx (by decide +kernel)) <|
  OkT.cons (ok_If_ge (off := 5) (by decide) cx (by decide +kernel)) <|
  OkT.cons (ok_fg [0, 1, 2] (ok_iconst (n := (-1)) cx (by decide +kernel) rfl)) <|
  OkT.cons (ok_retI hr (by decide +kernel)) <|
  OkT.cons (ok_aload_n (kn := 0) rfl cx (by decide +kernel)) <|
  OkT.cons (ok_getA (k := 1) fg_RX8_19 (by decide) rfl cx (by decide +kernel)) <|
  OkT.cons (ok_iload_n (kn := 1) rfl cx (by decide +kernel)) <|
  OkT.cons (ok_callV hex rfl rfl (by decide) ca_RX8_99 hR hA cx (by decide +kernel)) <|
  OkT.cons (ok_iload_n (kn := 2) rfl cx (by decide +kernel)) <|
  OkT.cons (ok_callS hex rfl ca_RX8_113 hR hA cx (by decide +kernel)) <|
  OkT.cons (ok_retI hr (by decide +kernel)) <|
  OkT.nil⟩
def T_X8_pupil (ex : Ex) : Tb := [(0, oAld 0 1), (1, oGetD 6 5), (4, oIld 1 1), (5, oCallV ex 61 1 3), (8, oIf_eq 22), (11, oAld 0 1), (12, oGetD 6 5), (15, oIld 1 1), (16, oCallV ex 68 1 3), (19, oGoto 23), (22, oFg [0, 1] (pS (fPush (.int (-1))) 1)), (23, oFg [0, 1] (oRetI))]
set_option maxRecDepth 20000 in
theorem ta_X8_pupil : TabOk MIS T_X8_pupil mi_X8_pupil := ⟨by decide +kernel, fun l d ex hex p e R s m args below meth c cells slots ad D cI cZ A cx hR hA hr =>
  OkT.cons (ok_aload_n (kn := 0) rfl cx (by decide +kernel)) <|
  OkT.cons (ok_getD fg_RX8_47 (by decide) rfl cx (by decide +kernel)) <|
  OkT.cons (ok_iload_n (kn := 1) rfl cx (by decide +kernel)) <|
  OkT.cons (ok_callV hex rfl rfl (by decide) ca_RX8_117 hR hA cx (by decide +kernel)) <|
  OkT.cons (ok_If_eq (off := 14) (by decide) cx (by decide +kernel)) <|
  OkT.cons (ok_aload_n (kn := 0) rfl cx (by decide +kernel)) <|
  OkT.cons (ok_getD fg_RX8_47 (by decide) rfl cx (by decide +kernel)) <|
  OkT.cons (ok_iload_n (kn := 1) rfl cx (by decide +kernel)) <|
  OkT.cons (ok_callV hex rfl rfl (by decide) ca_RX8_120 hR hA cx (by decide +kernel)) <|
  OkT.cons (ok_goto (off := 4) (by decide) cx (by decide +kernel)) <|
  OkT.cons (ok_fg [0, 1] (ok_iconst (n := (-1)) cx (by decide +kernel) rfl)) <|
  OkT.cons (ok_fg [0, 1] (ok_retI hr (by decide +kernel))) <|
  OkT.nil⟩
def T_X8_lay (ex : Ex) : Tb := [(0, oAld 0 1), (1, oGetD 6 5), (4, oIld 1 1), (5, oCallV ex 61 1 3), (8, oIf_eq 33), (11, oAld 0 1), (12, oGetD 6 5), (15, oIld 2 1), (16, oCallV ex 60 1 3), (19, oIf_eq 33), (22, oAld 0 1), (23, oGetD 6 5), (26, oIld 3 1), (27, oCallV ex 59 1 3), (30, oIf_ne 35), (33, oFg [0, 1, 2, 3, 4, 5] (pS (fPush (.int (-1))) 1)), (34, oRetI), (35, oFg [4, 5] (oAld 0 1)), (36, oGetD 6 5), (39, pS (fPush (.int 1)) 1), (40, oIld 1 1), (41, pS (fB (fun x y => x <<< (y &&& 31))) 1), (42, oIld 3 1), (43, oCallV ex 71 2 3), (46, oIf_ne 52), (49, pS (fPush (.int (-2))) 2), (51, oRetI), (52, oFg [1, 4, 5] (oAld 0 1)), (53, oGetA 6 4), (56, oIld 2 1), (57, oCallV ex 92 1 5), (60, oIst 4 2), (62, oIld 4 2), (64, oCallS ex 38 1), (67, oIf_eq 73), (70, pS (fPush (.int (-3))) 2), (72, oRetI), (73, oFg [1, 5] (oAld 0 1)), (74, oGetD 6 5), (77, oIld 3 1), (78, oCallV ex 65 1 3), (81, oIst 5 2), (83, oAld 0 1), (84, oGetA 6 4), (87, oIld 2 1), (88, oIld 4 2), (90, oIld 3 1), (91, oCallS ex 39 2), (94, oIld 5 2), (96, oCallV ex 95 3 5), (99, oIld 5 2), (101, oRetI)]
set_option maxRecDepth 20000 in
theorem ta_X8_lay : TabOk MIS T_X8_lay mi_X8_lay := ⟨by decide +kernel, fun l d ex hex p e R s m args below meth c cells slots ad D cI cZ A cx hR hA hr =>
  OkT.cons (ok_aload_n (kn := 0) rfl cx (by decide +kernel)) <|
  OkT.cons (ok_getD fg_RX8_47 (by decide) rfl cx (by decide +kernel)) <|
  OkT.cons (ok_iload_n (kn := 1) rfl cx (by decide +kernel)) <|
  OkT.cons (ok_callV hex rfl rfl (by decide) ca_RX8_117 hR hA cx (by decide +kernel)) <|
  OkT.cons (ok_If_eq (off := 25) (by decide) cx (by decide +kernel)) <|
  OkT.cons (ok_aload_n (kn := 0) rfl cx (by decide +kernel)) <|
  OkT.cons (ok_getD fg_RX8_47 (by decide) rfl cx (by decide +kernel)) <|
  OkT.cons (ok_iload_n (kn := 2) rfl cx (by decide +kernel)) <|
  OkT.cons (ok_callV hex rfl rfl (by decide) ca_RX8_96 hR hA cx (by decide +kernel)) <|
  OkT.cons (ok_If_eq (off := 14) (by decide) cx (by decide +kernel)) <|
  OkT.cons (ok_aload_n (kn := 0) rfl cx (by decide +kernel)) <|
  OkT.cons (ok_getD fg_RX8_47 (by decide) rfl cx (by decide +kernel)) <|
  OkT.cons (ok_iload_n (kn := 3) rfl cx (by decide +kernel)) <|
  OkT.cons (ok_callV hex rfl rfl (by decide) ca_RX8_80 hR hA cx (by decide +kernel)) <|
  OkT.cons (ok_If_ne (off := 5) (by decide) cx (by decide +kernel)) <|
  OkT.cons (ok_fg [0, 1, 2, 3, 4, 5] (ok_iconst (n := (-1)) cx (by decide +kernel) rfl)) <|
  OkT.cons (ok_retI hr (by decide +kernel)) <|
  OkT.cons (ok_fg [4, 5] (ok_aload_n (kn := 0) rfl cx (by decide +kernel))) <|
  OkT.cons (ok_getD fg_RX8_47 (by decide) rfl cx (by decide +kernel)) <|
  OkT.cons (ok_iconst (n := 1) cx (by decide +kernel) rfl) <|
  OkT.cons (ok_iload_n (kn := 1) rfl cx (by decide +kernel)) <|
  OkT.cons (ok_ishl cx (by decide +kernel)) <|
  OkT.cons (ok_iload_n (kn := 3) rfl cx (by decide +kernel)) <|
  OkT.cons (ok_callV hex rfl rfl (by decide) ca_RX8_123 hR hA cx (by decide +kernel)) <|
  OkT.cons (ok_If_ne (off := 6) (by decide) cx (by decide +kernel)) <|
  OkT.cons (ok_bipush (n := (-2)) cx (by decide +kernel) rfl) <|
  OkT.cons (ok_retI hr (by decide +kernel)) <|
  OkT.cons (ok_fg [1, 4, 5] (ok_aload_n (kn := 0) rfl cx (by decide +kernel))) <|
  OkT.cons (ok_getA (k := 1) fg_RX8_19 (by decide) rfl cx (by decide +kernel)) <|
  OkT.cons (ok_iload_n (kn := 2) rfl cx (by decide +kernel)) <|
  OkT.cons (ok_callV hex rfl rfl (by decide) ca_RX8_99 hR hA cx (by decide +kernel)) <|
  OkT.cons (ok_istore cx (by decide +kernel)) <|
  OkT.cons (ok_iload cx (by decide +kernel)) <|
  OkT.cons (ok_callS hex rfl ca_RX8_127 hR hA cx (by decide +kernel)) <|
  OkT.cons (ok_If_eq (off := 6) (by decide) cx (by decide +kernel)) <|
  OkT.cons (ok_bipush (n := (-3)) cx (by decide +kernel) rfl) <|
  OkT.cons (ok_retI hr (by decide +kernel)) <|
  OkT.cons (ok_fg [1, 5] (ok_aload_n (kn := 0) rfl cx (by decide +kernel))) <|
  OkT.cons (ok_getD fg_RX8_47 (by decide) rfl cx (by decide +kernel)) <|
  OkT.cons (ok_iload_n (kn := 3) rfl cx (by decide +kernel)) <|
  OkT.cons (ok_callV hex rfl rfl (by decide) ca_RX8_90 hR hA cx (by decide +kernel)) <|
  OkT.cons (ok_istore cx (by decide +kernel)) <|
  OkT.cons (ok_aload_n (kn := 0) rfl cx (by decide +kernel)) <|
  OkT.cons (ok_getA (k := 1) fg_RX8_19 (by decide) rfl cx (by decide +kernel)) <|
  OkT.cons (ok_iload_n (kn := 2) rfl cx (by decide +kernel)) <|
  OkT.cons (ok_iload cx (by decide +kernel)) <|
  OkT.cons (ok_iload_n (kn := 3) rfl cx (by decide +kernel)) <|
  OkT.cons (ok_callS hex rfl ca_RX8_130 hR hA cx (by decide +kernel)) <|
  OkT.cons (ok_iload cx (by decide +kernel)) <|
  OkT.cons (ok_callV hex rfl rfl (by decide) ca_RX8_133 hR hA cx (by decide +kernel)) <|
  OkT.cons (ok_iload cx (by decide +kernel)) <|
  OkT.cons (ok_retI hr (by decide +kernel)) <|
  OkT.nil⟩
def T_X8_lift (ex : Ex) : Tb := [(0, oAld 0 1), (1, oGetD 6 5), (4, oIld 1 1), (5, oCallV ex 61 1 3), (8, oIf_eq 22), (11, oAld 0 1), (12, oGetD 6 5), (15, oIld 2 1), (16, oCallV ex 60 1 3), (19, oIf_ne 24), (22, oFg [0, 1, 2, 3, 4] (pS (fPush (.int (-1))) 1)), (23, oRetI), (24, oFg [3, 4] (oAld 0 1)), (25, oGetA 6 4), (28, oIld 2 1), (29, oCallV ex 92 1 5), (32, oIst 3 1), (33, oAld 0 1), (34, oGetD 6 5), (37, oIld 3 1), (38, pS (fPush (.int 1)) 1), (39, oIld 1 1), (40, pS (fB (fun x y => x <<< (y &&& 31))) 1), (41, pS (fPush (.int 5)) 1), (42, oCallV ex 76 3 3), (45, oIst 4 2), (47, oIld 4 2), (49, oIf_ge 55), (52, pS (fPush (.int (-2))) 2), (54, oRetI), (55, oFg [1] (oAld 0 1)), (56, oGetA 6 4), (59, oIld 2 1), (60, oIld 4 2), (62, oAld 0 1), (63, oGetD 6 5), (66, oIld 3 1), (67, pS (fPush (.int 5)) 1), (68, oCallV ex 77 2 3), (71, oCallV ex 95 3 5), (74, oIld 3 1), (75, oCallS ex 40 1), (78, oRetI)]
set_option maxRecDepth 20000 in
theorem ta_X8_lift : TabOk MIS T_X8_lift mi_X8_lift := ⟨by decide +kernel, fun l d ex hex p e R s m args below meth c cells slots ad D cI cZ A cx hR hA hr =>
  OkT.cons (ok_aload_n (kn := 0) rfl cx (by decide +kernel)) <|
  OkT.cons (ok_getD fg_RX8_47 (by decide) rfl cx (by decide +kernel)) <|
  OkT.cons (ok_iload_n (kn := 1) rfl cx (by decide +kernel)) <|
  OkT.cons (ok_callV hex rfl rfl (by decide) ca_RX8_117 hR hA cx (by decide +kernel)) <|
  OkT.cons (ok_If_eq (off := 14) (by decide) cx (by decide +kernel)) <|
  OkT.cons (ok_aload_n (kn := 0) rfl cx (by decide +kernel)) <|
  OkT.cons (ok_getD fg_RX8_47 (by decide) rfl cx (by decide +kernel)) <|
  OkT.cons (ok_iload_n (kn := 2) rfl cx (by decide +kernel)) <|
  OkT.cons (ok_callV hex rfl rfl (by decide) ca_RX8_96 hR hA cx (by decide +kernel)) <|
  OkT.cons (ok_If_ne (off := 5) (by decide) cx (by decide +kernel)) <|
  OkT.cons (ok_fg [0, 1, 2, 3, 4] (ok_iconst (n := (-1)) cx (by decide +kernel) rfl)) <|
  OkT.cons (ok_retI hr (by decide +kernel)) <|
  OkT.cons (ok_fg [3, 4] (ok_aload_n (kn := 0) rfl cx (by decide +kernel))) <|
  OkT.cons (ok_getA (k := 1) fg_RX8_19 (by decide) rfl cx (by decide +kernel)) <|
  OkT.cons (ok_iload_n (kn := 2) rfl cx (by decide +kernel)) <|
  OkT.cons (ok_callV hex rfl rfl (by decide) ca_RX8_99 hR hA cx (by decide +kernel)) <|
  OkT.cons (ok_istore_n (kn := 3) rfl cx (by decide +kernel)) <|
  OkT.cons (ok_aload_n (kn := 0) rfl cx (by decide +kernel)) <|
  OkT.cons (ok_getD fg_RX8_47 (by decide) rfl cx (by decide +kernel)) <|
  OkT.cons (ok_iload_n (kn := 3) rfl cx (by decide +kernel)) <|
  OkT.cons (ok_iconst (n := 1) cx (by decide +kernel) rfl) <|
  OkT.cons (ok_iload_n (kn := 1) rfl cx (by decide +kernel)) <|
  OkT.cons (ok_ishl cx (by decide +kernel)) <|
  OkT.cons (ok_iconst (n := 5) cx (by decide +kernel) rfl) <|
  OkT.cons (ok_callV hex rfl rfl (by decide) ca_RX8_137 hR hA cx (by decide +kernel)) <|
  OkT.cons (ok_istore cx (by decide +kernel)) <|
  OkT.cons (ok_iload cx (by decide +kernel)) <|
  OkT.cons (ok_If_ge (off := 6) (by decide) cx (by decide +kernel)) <|
  OkT.cons (ok_bipush (n := (-2)) cx (by decide +kernel) rfl) <|
  OkT.cons (ok_retI hr (by decide +kernel)) <|
  OkT.cons (ok_fg [1] (ok_aload_n (kn := 0) rfl cx (by decide +kernel))) <|
  OkT.cons (ok_getA (k := 1) fg_RX8_19 (by decide) rfl cx (by decide +kernel)) <|
  OkT.cons (ok_iload_n (kn := 2) rfl cx (by decide +kernel)) <|
  OkT.cons (ok_iload cx (by decide +kernel)) <|
  OkT.cons (ok_aload_n (kn := 0) rfl cx (by decide +kernel)) <|
  OkT.cons (ok_getD fg_RX8_47 (by decide) rfl cx (by decide +kernel)) <|
  OkT.cons (ok_iload_n (kn := 3) rfl cx (by decide +kernel)) <|
  OkT.cons (ok_iconst (n := 5) cx (by decide +kernel) rfl) <|
  OkT.cons (ok_callV hex rfl rfl (by decide) ca_RX8_141 hR hA cx (by decide +kernel)) <|
  OkT.cons (ok_callV hex rfl rfl (by decide) ca_RX8_133 hR hA cx (by decide +kernel)) <|
  OkT.cons (ok_iload_n (kn := 3) rfl cx (by decide +kernel)) <|
  OkT.cons (ok_callS hex rfl ca_RX8_144 hR hA cx (by decide +kernel)) <|
  OkT.cons (ok_retI hr (by decide +kernel)) <|
  OkT.nil⟩
def T_X8_swap (ex : Ex) : Tb := [(0, oAld 0 1), (1, oGetD 6 5), (4, oIld 1 1), (5, oCallV ex 61 1 3), (8, oIf_eq 22), (11, oAld 0 1), (12, oGetD 6 5), (15, oIld 2 1), (16, oCallV ex 60 1 3), (19, oIf_ne 24), (22, oFg [0, 1, 2, 3, 4] (pS (fPush (.int (-1))) 1)), (23, oRetI), (24, oFg [3, 4] (oAld 0 1)), (25, oGetA 6 4), (28, oIld 2 1), (29, oCallV ex 92 1 5), (32, oIst 3 1), (33, oAld 0 1), (34, oGetD 6 5), (37, oIld 3 1), (38, pS (fPush (.int 1)) 1), (39, oIld 1 1), (40, pS (fB (fun x y => x <<< (y &&& 31))) 1), (41, pS (fPush (.int 6)) 2), (43, oCallV ex 76 3 3), (46, oIst 4 2), (48, oIld 4 2), (50, oIf_ge 56), (53, pS (fPush (.int (-2))) 2), (55, oRetI), (56, oFg [1] (oAld 0 1)), (57, oGetA 6 4), (60, oIld 2 1), (61, oIld 4 2), (63, oAld 0 1), (64, oGetD 6 5), (67, oIld 3 1), (68, pS (fPush (.int 6)) 2), (70, oCallV ex 77 2 3), (73, oCallV ex 95 3 5), (76, oIld 4 2), (78, oCallS ex 40 1), (81, oRetI)]
set_option maxRecDepth 20000 in
theorem ta_X8_swap : TabOk MIS T_X8_swap mi_X8_swap := ⟨by decide +kernel, fun l d ex hex p e R s m args below meth c cells slots ad D cI cZ A cx hR hA hr =>
  OkT.cons (ok_aload_n (kn := 0) rfl cx (by decide +kernel)) <|
  OkT.cons (ok_getD fg_RX8_47 (by decide) rfl cx (by decide +kernel)) <|
  OkT.cons (ok_iload_n (kn := 1) rfl cx (by decide +kernel)) <|
  OkT.cons (ok_callV hex rfl rfl (by decide) ca_RX8_117 hR hA cx (by decide +kernel)) <|
  OkT.cons (ok_If_eq (off := 14) (by decide) cx (by decide +kernel)) <|
  OkT.cons (ok_aload_n (kn := 0) rfl cx (by decide +kernel)) <|
  OkT.cons (ok_getD fg_RX8_47 (by decide) rfl cx (by decide +kernel)) <|
  OkT.cons (ok_iload_n (kn := 2) rfl cx (by decide +kernel)) <|
  OkT.cons (ok_callV hex rfl rfl (by decide) ca_RX8_96 hR hA cx (by decide +kernel)) <|
  OkT.cons (ok_If_ne (off := 5) (by decide) cx (by decide +kernel)) <|
  OkT.cons (ok_fg [0, 1, 2, 3, 4] (ok_iconst (n := (-1)) cx (by decide +kernel) rfl)) <|
  OkT.cons (ok_retI hr (by decide +kernel)) <|
  OkT.cons (ok_fg [3, 4] (ok_aload_n (kn := 0) rfl cx (by decide +kernel))) <|
  OkT.cons (ok_getA (k := 1) fg_RX8_19 (by decide) rfl cx (by decide +kernel)) <|
  OkT.cons (ok_iload_n (kn := 2) rfl cx (by decide +kernel)) <|
  OkT.cons (ok_callV hex rfl rfl (by decide) ca_RX8_99 hR hA cx (by decide +kernel)) <|
  OkT.cons (ok_istore_n (kn := 3) rfl cx (by decide +kernel)) <|
  OkT.cons (ok_aload_n (kn := 0) rfl cx (by decide +kernel)) <|
  OkT.cons (ok_getD fg_RX8_47 (by decide) rfl cx (by decide +kernel)) <|
  OkT.cons (ok_iload_n (kn := 3) rfl cx (by decide +kernel)) <|
  OkT.cons (ok_iconst (n := 1) cx (by decide +kernel) rfl) <|
  OkT.cons (ok_iload_n (kn := 1) rfl cx (by decide +kernel)) <|
  OkT.cons (ok_ishl cx (by decide +kernel)) <|
  OkT.cons (ok_bipush (n := 6) cx (by decide +kernel) rfl) <|
  OkT.cons (ok_callV hex rfl rfl (by decide) ca_RX8_137 hR hA cx (by decide +kernel)) <|
  OkT.cons (ok_istore cx (by decide +kernel)) <|
  OkT.cons (ok_iload cx (by decide +kernel)) <|
  OkT.cons (ok_If_ge (off := 6) (by decide) cx (by decide +kernel)) <|
  OkT.cons (ok_bipush (n := (-2)) cx (by decide +kernel) rfl) <|
  OkT.cons (ok_retI hr (by decide +kernel)) <|
  OkT.cons (ok_fg [1] (ok_aload_n (kn := 0) rfl cx (by decide +kernel))) <|
  OkT.cons (ok_getA (k := 1) fg_RX8_19 (by decide) rfl cx (by decide +kernel)) <|
  OkT.cons (ok_iload_n (kn := 2) rfl cx (by decide +kernel)) <|
  OkT.cons (ok_iload cx (by decide +kernel)) <|
  OkT.cons (ok_aload_n (kn := 0) rfl cx (by decide +kernel)) <|
  OkT.cons (ok_getD fg_RX8_47 (by decide) rfl cx (by decide +kernel)) <|
  OkT.cons (ok_iload_n (kn := 3) rfl cx (by decide +kernel)) <|
  OkT.cons (ok_bipush (n := 6) cx (by decide +kernel) rfl) <|
  OkT.cons (ok_callV hex rfl rfl (by decide) ca_RX8_141 hR hA cx (by decide +kernel)) <|
  OkT.cons (ok_callV hex rfl rfl (by decide) ca_RX8_133 hR hA cx (by decide +kernel)) <|
  OkT.cons (ok_iload cx (by decide +kernel)) <|
  OkT.cons (ok_callS hex rfl ca_RX8_144 hR hA cx (by decide +kernel)) <|
  OkT.cons (ok_retI hr (by decide +kernel)) <|
  OkT.nil⟩
def T_X8_copy (ex : Ex) : Tb := [(0, oAld 0 1), (1, oGetD 6 5), (4, oIld 1 1), (5, oCallV ex 61 1 3), (8, oIf_eq 38), (11, oAld 0 1), (12, oGetD 6 5), (15, oIld 2 1), (16, oCallV ex 60 1 3), (19, oIf_eq 38), (22, oAld 0 1), (23, oGetD 6 5), (26, oIld 3 1), (27, oCallV ex 60 1 3), (30, oIf_eq 38), (33, oIld 2 1), (34, oIld 3 1), (35, oIc_ne 40), (38, oFg [0, 1, 2, 3, 4, 5] (pS (fPush (.int (-1))) 1)), (39, oRetI), (40, oFg [4, 5] (oAld 0 1)), (41, oGetA 6 4), (44, oIld 2 1), (45, oCallV ex 92 1 5), (48, oCallS ex 40 1), (51, oIst 4 2), (53, oIld 4 2), (55, oIf_lt 73), (58, oAld 0 1), (59, oGetD 6 5), (62, pS (fPush (.int 1)) 1), (63, oIld 1 1), (64, pS (fB (fun x y => x <<< (y &&& 31))) 1), (65, oIld 4 2), (67, oCallV ex 71 2 3), (70, oIf_ne 76), (73, oFg [0, 1, 2, 3, 4, 5] (pS (fPush (.int (-2))) 2)), (75, oRetI), (76, oFg [1, 2, 5] (oAld 0 1)), (77, oGetA 6 4), (80, oIld 3 1), (81, oCallV ex 92 1 5), (84, oIst 5 2), (86, oIld 5 2), (88, oCallS ex 38 1), (91, oIf_eq 97), (94, pS (fPush (.int (-3))) 2), (96, oRetI), (97, oFg [1, 2] (oAld 0 1)), (98, oGetA 6 4), (101, oIld 3 1), (102, oIld 5 2), (104, oIld 4 2), (106, oCallS ex 39 2), (109, oAld 0 1), (110, oGetD 6 5), (113, oCallV ex 57 0 3), (116, oCallV ex 95 3 5), (119, oIld 4 2), (121, oRetI)]
set_option maxRecDepth 20000 in
theorem ta_X8_copy : TabOk MIS T_X8_copy mi_X8_copy := ⟨by decide +kernel, fun l d ex hex p e R s m args below meth c cells slots ad D cI cZ A cx hR hA hr =>
  OkT.cons (ok_aload_n (kn := 0) rfl cx (by decide +kernel)) <|
  OkT.cons (ok_getD fg_RX8_47 (by decide) rfl cx (by decide +kernel)) <|
  OkT.cons (ok_iload_n (kn := 1) rfl cx (by decide +kernel)) <|
  OkT.cons (ok_callV hex rfl rfl (by decide) ca_RX8_117 hR hA cx (by decide +kernel)) <|
  OkT.cons (ok_If_eq (off := 30) (by decide) cx (by decide +kernel)) <|
  OkT.cons (ok_aload_n (kn := 0) rfl cx (by decide +kernel)) <|
  OkT.cons (ok_getD fg_RX8_47 (by decide) rfl cx (by decide +kernel)) <|
  OkT.cons (ok_iload_n (kn := 2) rfl cx (by decide +kernel)) <|
  OkT.cons (ok_callV hex rfl rfl (by decide) ca_RX8_96 hR hA cx (by decide +kernel)) <|
  OkT.cons (ok_If_eq (off := 19) (by decide) cx (by decide +kernel)) <|
  OkT.cons (ok_aload_n (kn := 0) rfl cx (by decide +kernel)) <|
  OkT.cons (ok_getD fg_RX8_47 (by decide) rfl cx (by decide +kernel)) <|
  OkT.cons (ok_iload_n (kn := 3) rfl cx (by decide +kernel)) <|
  OkT.cons (ok_callV hex rfl rfl (by decide) ca_RX8_96 hR hA cx (by decide +kernel)) <|
  OkT.cons (ok_If_eq (off := 8) (by decide) cx (by decide +kernel)) <|
  OkT.cons (ok_iload_n (kn := 2) rfl cx (by decide +kernel)) <|
  OkT.cons (ok_iload_n (kn := 3) rfl cx (by decide +kernel)) <|
  OkT.cons (ok_Ic_ne (off := 5) (by decide) cx (by decide +kernel)) <|
  OkT.cons (ok_fg [0, 1, 2, 3, 4, 5] (ok_iconst (n := (-1)) cx (by decide +kernel) rfl)) <|
  OkT.cons (ok_retI hr (by decide +kernel)) <|
  OkT.cons (ok_fg [4, 5] (ok_aload_n (kn := 0) rfl cx (by decide +kernel))) <|
  OkT.cons (ok_getA (k := 1) fg_RX8_19 (by decide) rfl cx (by decide +kernel)) <|
  OkT.cons (ok_iload_n (kn := 2) rfl cx (by decide +kernel)) <|
  OkT.cons (ok_callV hex rfl rfl (by decide) ca_RX8_99 hR hA cx (by decide +kernel)) <|
  OkT.cons (ok_callS hex rfl ca_RX8_144 hR hA cx (by decide +kernel)) <|
  OkT.cons (ok_istore cx (by decide +kernel)) <|
  OkT.cons (ok_iload cx (by decide +kernel)) <|
  OkT.cons (ok_If_lt (off := 18) (by decide) cx (by decide +kernel)) <|
  OkT.cons (ok_aload_n (kn := 0) rfl cx (by decide +kernel)) <|
  OkT.cons (ok_getD fg_RX8_47 (by decide) rfl cx (by decide +kernel)) <|
  OkT.cons (ok_iconst (n := 1) cx (by decide +kernel) rfl) <|
  OkT.cons (ok_iload_n (kn := 1) rfl cx (by decide +kernel)) <|
  OkT.cons (ok_ishl cx (by decide +kernel)) <|
  OkT.cons (ok_iload cx (by decide +kernel)) <|
  OkT.cons (ok_callV hex rfl rfl (by decide) ca_RX8_123 hR hA cx (by decide +kernel)) <|
  OkT.cons (ok_If_ne (off := 6) (by decide) cx (by decide +kernel)) <|
  OkT.cons (ok_fg [0, 1, 2, 3, 4, 5] (ok_bipush (n := (-2)) cx (by decide +kernel) rfl)) <|
  OkT.cons (ok_retI hr (by decide +kernel)) <|
  OkT.cons (ok_fg [1, 2, 5] (ok_aload_n (kn := 0) rfl cx (by decide +kernel))) <|
  OkT.cons (ok_getA (k := 1) fg_RX8_19 (by decide) rfl cx (by decide +kernel)) <|
  OkT.cons (ok_iload_n (kn := 3) rfl cx (by decide +kernel)) <|
  OkT.cons (ok_callV hex rfl rfl (by decide) ca_RX8_99 hR hA cx (by decide +kernel)) <|
  OkT.cons (ok_istore cx (by decide +kernel)) <|
  OkT.cons (ok_iload cx (by decide +kernel)) <|
  OkT.cons (ok_callS hex rfl ca_RX8_127 hR hA cx (by decide +kernel)) <|
  OkT.cons (ok_If_eq (off := 6) (by decide) cx (by decide +kernel)) <|
  OkT.cons (ok_bipush (n := (-3)) cx (by decide +kernel) rfl) <|
  OkT.cons (ok_retI hr (by decide +kernel)) <|
  OkT.cons (ok_fg [1, 2] (ok_aload_n (kn := 0) rfl cx (by decide +kernel))) <|
  OkT.cons (ok_getA (k := 1) fg_RX8_19 (by decide) rfl cx (by decide +kernel)) <|
  OkT.cons (ok_iload_n (kn := 3) rfl cx (by decide +kernel)) <|
  OkT.cons (ok_iload cx (by decide +kernel)) <|
  OkT.cons (ok_iload cx (by decide +kernel)) <|
  OkT.cons (ok_callS hex rfl ca_RX8_130 hR hA cx (by decide +kernel)) <|
  OkT.cons (ok_aload_n (kn := 0) rfl cx (by decide +kernel)) <|
  OkT.cons (ok_getD fg_RX8_47 (by decide) rfl cx (by decide +kernel)) <|
  OkT.cons (ok_callV hex rfl rfl (by decide) ca_RX8_147 hR hA cx (by decide +kernel)) <|
  OkT.cons (ok_callV hex rfl rfl (by decide) ca_RX8_133 hR hA cx (by decide +kernel)) <|
  OkT.cons (ok_iload cx (by decide +kernel)) <|
  OkT.cons (ok_retI hr (by decide +kernel)) <|
  OkT.nil⟩

/-! paths of the methods (printed by a program) -/
theorem p_X9_canSay_11T_R {ex : Ex} {x1 : Int32} {x2 : Int32} {x3 : Int32} {x4 : Int32} {v5 : Value} {w : Wd} (h1 : 25 ≤ x4) (h2 : vp_in ((5 * x2) + x3) 25) (h3 : (w.1 48 (((5 * x2) + x3).toNatClampNeg)) = 0 ∨ (w.1 48 (((5 * x2) + x3).toNatClampNeg)) = 1) : runs (T_X9_canSay ex) (11, [.ref 34, .int x1, .int x2, .int x3, .int x4, v5], [], w) = some (some (.int (w.1 48 (((5 * x2) + x3).toNatClampNeg))), updI w 34 30 x1) := 
    (runs_stps (q' := (15, [.ref 34, .int x1, .int x2, .int x3, .int x4, .null], [.int 25, .int x4], w)) 2 rfl).trans <|
    (runs_if_t (a := 108) (b := 18) (L := [.ref 34, .int x1, .int x2, .int x3, .int x4, .null]) (st := []) (w := w) rfl h1).trans <|
    (runs_stps (q' := (122, [.ref 34, .null, .int x2, .int x3, .null, .null], [.int ((5 * x2) + x3), .ref 48], updI w 34 30 x1)) 10 rfl).trans <|
    (runs_ck (q' := (123, [.ref 34, .null, .int x2, .int x3, .null, .null], [.int (w.1 48 (((5 * x2) + x3).toNatClampNeg))], updI w 34 30 x1)) rfl h2).trans <|
    runs_rck rfl h3
theorem p_X9_canSay_11F_L29 {ex : Ex} {x1 : Int32} {x2 : Int32} {x3 : Int32} {x4 : Int32} {v5 : Value} {w : Wd} (h1 : ¬ 25 ≤ x4) (h2 : vp_in x4 25) : runs (T_X9_canSay ex) (11, [.ref 34, .int x1, .int x2, .int x3, .int x4, v5], [], w) = runs (T_X9_canSay ex) (29, [.ref 34, .int x1, .int x2, .int x3, .int x4, .int 0], [], updI w 48 x4.toNatClampNeg (vp_nar .boolean 0)) := 
    (runs_stps (q' := (15, [.ref 34, .int x1, .int x2, .int x3, .int x4, .null], [.int 25, .int x4], w)) 2 rfl).trans <|
    (runs_if_f (a := 108) (b := 18) (L := [.ref 34, .int x1, .int x2, .int x3, .int x4, .null]) (st := []) (w := w) rfl h1).trans <|
    (runs_stps (q' := (25, [.ref 34, .int x1, .int x2, .int x3, .int x4, .null], [.int 0, .int x4, .ref 48], w)) 4 rfl).trans <|
    (runs_ck (q' := (26, [.ref 34, .int x1, .int x2, .int x3, .int x4, .null], [], updI w 48 x4.toNatClampNeg (vp_nar .boolean 0))) rfl h2).trans <|
    (runs_stps (q' := (29, [.ref 34, .int x1, .int x2, .int x3, .int x4, .int 0], [], updI w 48 x4.toNatClampNeg (vp_nar .boolean 0))) 2 rfl).trans <|
    rfl
theorem p_X9_canSay_29T_L11 {ex : Ex} {x1 : Int32} {x2 : Int32} {x3 : Int32} {x4 : Int32} {x5 : Int32} {w : Wd} (h1 : (w.1 34 15) ≤ x5) : runs (T_X9_canSay ex) (29, [.ref 34, .int x1, .int x2, .int x3, .int x4, .int x5], [], w) = runs (T_X9_canSay ex) (11, [.ref 34, .int x1, .int x2, .int x3, .int (x4 + 1), .null], [], w) := 
    (runs_stps (q' := (35, [.ref 34, .int x1, .int x2, .int x3, .int x4, .int x5], [.int (w.1 34 15), .int x5], w)) 3 rfl).trans <|
    (runs_if_t (a := 102) (b := 38) (L := [.ref 34, .int x1, .int x2, .int x3, .int x4, .int x5]) (st := []) (w := w) rfl h1).trans <|
    (runs_stps (q' := (11, [.ref 34, .int x1, .int x2, .int x3, .int (x4 + 1), .null], [], w)) 2 rfl).trans <|
    rfl
theorem p_X9_canSay_29FT_L29 {ex : Ex} {x1 : Int32} {x2 : Int32} {x3 : Int32} {x4 : Int32} {x5 : Int32} {w : Wd} (h1 : ¬ (w.1 34 15) ≤ x5) (h2 : vp_in x4 25) (h3 : ¬ (w.1 48 x4.toNatClampNeg) = 0) (h4 : vp_in x4 25) : runs (T_X9_canSay ex) (29, [.ref 34, .int x1, .int x2, .int x3, .int x4, .int x5], [], w) = runs (T_X9_canSay ex) (29, [.ref 34, .int x1, .int x2, .int x3, .int x4, .int (x5 + 1)], [], updI w 48 x4.toNatClampNeg (vp_nar .boolean 1)) := 
    (runs_stps (q' := (35, [.ref 34, .int x1, .int x2, .int x3, .int x4, .int x5], [.int (w.1 34 15), .int x5], w)) 3 rfl).trans <|
    (runs_if_f (a := 102) (b := 38) (L := [.ref 34, .int x1, .int x2, .int x3, .int x4, .int x5]) (st := []) (w := w) rfl h1).trans <|
    (runs_stps (q' := (50, [.ref 34, .int x1, .int x2, .int x3, .int x4, .int x5], [.int x4, .ref 48, .int x4, .ref 48], w)) 6 rfl).trans <|
    (runs_ck (q' := (51, [.ref 34, .int x1, .int x2, .int x3, .int x4, .int x5], [.int (w.1 48 x4.toNatClampNeg), .int x4, .ref 48], w)) rfl h2).trans <|
    (runs_if_f (a := 54) (b := 90) (L := [.ref 34, .int x1, .int x2, .int x3, .int x4, .int x5]) (st := [.int x4, .ref 48]) (w := w) rfl h3).trans <|
    (runs_stps (q' := (95, [.ref 34, .int x1, .int x2, .int x3, .int x4, .int x5], [.int 1, .int x4, .ref 48], w)) 2 rfl).trans <|
    (runs_ck (q' := (96, [.ref 34, .int x1, .int x2, .int x3, .int x4, .int x5], [], updI w 48 x4.toNatClampNeg (vp_nar .boolean 1))) rfl h4).trans <|
    (runs_stps (q' := (29, [.ref 34, .int x1, .int x2, .int x3, .int x4, .int (x5 + 1)], [], updI w 48 x4.toNatClampNeg (vp_nar .boolean 1))) 2 rfl).trans <|
    rfl
theorem p_X9_canSay_29FFT_L29 {ex : Ex} {x1 : Int32} {x2 : Int32} {x3 : Int32} {x4 : Int32} {x5 : Int32} {w : Wd} (h1 : ¬ (w.1 34 15) ≤ x5) (h2 : vp_in x4 25) (h3 : (w.1 48 x4.toNatClampNeg) = 0) (h4 : ¬ ((x1 >>> (x5 &&& 31)) &&& 1) = 1) (h5 : vp_in x4 25) : runs (T_X9_canSay ex) (29, [.ref 34, .int x1, .int x2, .int x3, .int x4, .int x5], [], w) = runs (T_X9_canSay ex) (29, [.ref 34, .int x1, .int x2, .int x3, .int x4, .int (x5 + 1)], [], updI w 48 x4.toNatClampNeg (vp_nar .boolean 0)) := 
    (runs_stps (q' := (35, [.ref 34, .int x1, .int x2, .int x3, .int x4, .int x5], [.int (w.1 34 15), .int x5], w)) 3 rfl).trans <|
    (runs_if_f (a := 102) (b := 38) (L := [.ref 34, .int x1, .int x2, .int x3, .int x4, .int x5]) (st := []) (w := w) rfl h1).trans <|
    (runs_stps (q' := (50, [.ref 34, .int x1, .int x2, .int x3, .int x4, .int x5], [.int x4, .ref 48, .int x4, .ref 48], w)) 6 rfl).trans <|
    (runs_ck (q' := (51, [.ref 34, .int x1, .int x2, .int x3, .int x4, .int x5], [.int (w.1 48 x4.toNatClampNeg), .int x4, .ref 48], w)) rfl h2).trans <|
    (runs_if_t (a := 54) (b := 90) (L := [.ref 34, .int x1, .int x2, .int x3, .int x4, .int x5]) (st := [.int x4, .ref 48]) (w := w) rfl h3).trans <|
    (runs_stps (q' := (61, [.ref 34, .int x1, .int x2, .int x3, .int x4, .int x5], [.int 1, .int ((x1 >>> (x5 &&& 31)) &&& 1), .int x4, .ref 48], w)) 6 rfl).trans <|
    (runs_if_f (a := 64) (b := 94) (L := [.ref 34, .int x1, .int x2, .int x3, .int x4, .int x5]) (st := [.int x4, .ref 48]) (w := w) rfl h4).trans <|
    (runs_stps (q' := (95, [.ref 34, .int x1, .int x2, .int x3, .int x4, .int x5], [.int 0, .int x4, .ref 48], w)) 1 rfl).trans <|
    (runs_ck (q' := (96, [.ref 34, .int x1, .int x2, .int x3, .int x4, .int x5], [], updI w 48 x4.toNatClampNeg (vp_nar .boolean 0))) rfl h5).trans <|
    (runs_stps (q' := (29, [.ref 34, .int x1, .int x2, .int x3, .int x4, .int (x5 + 1)], [], updI w 48 x4.toNatClampNeg (vp_nar .boolean 0))) 2 rfl).trans <|
    rfl
theorem p_X9_canSay_29FFFT_L29 {ex : Ex} {x1 : Int32} {x2 : Int32} {x3 : Int32} {x4 : Int32} {x5 : Int32} {r1 : Int32} {w1 : Wd} {w : Wd} (h1 : ¬ (w.1 34 15) ≤ x5) (h2 : vp_in x4 25) (h3 : (w.1 48 x4.toNatClampNeg) = 0) (h4 : ((x1 >>> (x5 &&& 31)) &&& 1) = 1) (h5 : ex 161 [.ref 34, .int x5, .int (x4 / 5)] w = some (some (.int r1), w1)) (h6 : r1 = 0) (h7 : vp_in x4 25) : runs (T_X9_canSay ex) (29, [.ref 34, .int x1, .int x2, .int x3, .int x4, .int x5], [], w) = runs (T_X9_canSay ex) (29, [.ref 34, .int x1, .int x2, .int x3, .int x4, .int (x5 + 1)], [], updI w1 48 x4.toNatClampNeg (vp_nar .boolean 0)) := 
    (runs_stps (q' := (35, [.ref 34, .int x1, .int x2, .int x3, .int x4, .int x5], [.int (w.1 34 15), .int x5], w)) 3 rfl).trans <|
    (runs_if_f (a := 102) (b := 38) (L := [.ref 34, .int x1, .int x2, .int x3, .int x4, .int x5]) (st := []) (w := w) rfl h1).trans <|
    (runs_stps (q' := (50, [.ref 34, .int x1, .int x2, .int x3, .int x4, .int x5], [.int x4, .ref 48, .int x4, .ref 48], w)) 6 rfl).trans <|
    (runs_ck (q' := (51, [.ref 34, .int x1, .int x2, .int x3, .int x4, .int x5], [.int (w.1 48 x4.toNatClampNeg), .int x4, .ref 48], w)) rfl h2).trans <|
    (runs_if_t (a := 54) (b := 90) (L := [.ref 34, .int x1, .int x2, .int x3, .int x4, .int x5]) (st := [.int x4, .ref 48]) (w := w) rfl h3).trans <|
    (runs_stps (q' := (61, [.ref 34, .int x1, .int x2, .int x3, .int x4, .int x5], [.int 1, .int ((x1 >>> (x5 &&& 31)) &&& 1), .int x4, .ref 48], w)) 6 rfl).trans <|
    (runs_if_t (a := 64) (b := 94) (L := [.ref 34, .int x1, .int x2, .int x3, .int x4, .int x5]) (st := [.int x4, .ref 48]) (w := w) rfl h4).trans <|
    (runs_stps (q' := (71, [.ref 34, .int x1, .int x2, .int x3, .int x4, .int x5], [.int (x4 / 5), .int x5, .ref 34, .int x4, .ref 48], w)) 5 rfl).trans <|
    (runs_callV (rv := some (.int r1)) (w' := w1) rfl rfl rfl rfl h5).trans <|
    (runs_if_t (a := 94) (b := 77) (L := [.ref 34, .int x1, .int x2, .int x3, .int x4, .int x5]) (st := [.int x4, .ref 48]) (w := w1) rfl h6).trans <|
    (runs_stps (q' := (95, [.ref 34, .int x1, .int x2, .int x3, .int x4, .int x5], [.int 0, .int x4, .ref 48], w1)) 1 rfl).trans <|
    (runs_ck (q' := (96, [.ref 34, .int x1, .int x2, .int x3, .int x4, .int x5], [], updI w1 48 x4.toNatClampNeg (vp_nar .boolean 0))) rfl h7).trans <|
    (runs_stps (q' := (29, [.ref 34, .int x1, .int x2, .int x3, .int x4, .int (x5 + 1)], [], updI w1 48 x4.toNatClampNeg (vp_nar .boolean 0))) 2 rfl).trans <|
    rfl
theorem p_X9_canSay_29FFFFT_L29 {ex : Ex} {x1 : Int32} {x2 : Int32} {x3 : Int32} {x4 : Int32} {x5 : Int32} {r1 : Int32} {w1 : Wd} {r2 : Int32} {w2 : Wd} {w : Wd} (h1 : ¬ (w.1 34 15) ≤ x5) (h2 : vp_in x4 25) (h3 : (w.1 48 x4.toNatClampNeg) = 0) (h4 : ((x1 >>> (x5 &&& 31)) &&& 1) = 1) (h5 : ex 161 [.ref 34, .int x5, .int (x4 / 5)] w = some (some (.int r1), w1)) (h6 : ¬ r1 = 0) (h7 : ex 161 [.ref 34, .int x5, .int (x4 - x4 / 5 * 5)] w1 = some (some (.int r2), w2)) (h8 : r2 = 0) (h9 : vp_in x4 25) : runs (T_X9_canSay ex) (29, [.ref 34, .int x1, .int x2, .int x3, .int x4, .int x5], [], w) = runs (T_X9_canSay ex) (29, [.ref 34, .int x1, .int x2, .int x3, .int x4, .int (x5 + 1)], [], updI w2 48 x4.toNatClampNeg (vp_nar .boolean 0)) := 
    (runs_stps (q' := (35, [.ref 34, .int x1, .int x2, .int x3, .int x4, .int x5], [.int (w.1 34 15), .int x5], w)) 3 rfl).trans <|
    (runs_if_f (a := 102) (b := 38) (L := [.ref 34, .int x1, .int x2, .int x3, .int x4, .int x5]) (st := []) (w := w) rfl h1).trans <|
    (runs_stps (q' := (50, [.ref 34, .int x1, .int x2, .int x3, .int x4, .int x5], [.int x4, .ref 48, .int x4, .ref 48], w)) 6 rfl).trans <|
    (runs_ck (q' := (51, [.ref 34, .int x1, .int x2, .int x3, .int x4, .int x5], [.int (w.1 48 x4.toNatClampNeg), .int x4, .ref 48], w)) rfl h2).trans <|
    (runs_if_t (a := 54) (b := 90) (L := [.ref 34, .int x1, .int x2, .int x3, .int x4, .int x5]) (st := [.int x4, .ref 48]) (w := w) rfl h3).trans <|
    (runs_stps (q' := (61, [.ref 34, .int x1, .int x2, .int x3, .int x4, .int x5], [.int 1, .int ((x1 >>> (x5 &&& 31)) &&& 1), .int x4, .ref 48], w)) 6 rfl).trans <|
    (runs_if_t (a := 64) (b := 94) (L := [.ref 34, .int x1, .int x2, .int x3, .int x4, .int x5]) (st := [.int x4, .ref 48]) (w := w) rfl h4).trans <|
    (runs_stps (q' := (71, [.ref 34, .int x1, .int x2, .int x3, .int x4, .int x5], [.int (x4 / 5), .int x5, .ref 34, .int x4, .ref 48], w)) 5 rfl).trans <|
    (runs_callV (rv := some (.int r1)) (w' := w1) rfl rfl rfl rfl h5).trans <|
    (runs_if_f (a := 94) (b := 77) (L := [.ref 34, .int x1, .int x2, .int x3, .int x4, .int x5]) (st := [.int x4, .ref 48]) (w := w1) rfl h6).trans <|
    (runs_stps (q' := (84, [.ref 34, .int x1, .int x2, .int x3, .int x4, .int x5], [.int (x4 - x4 / 5 * 5), .int x5, .ref 34, .int x4, .ref 48], w1)) 5 rfl).trans <|
    (runs_callV (rv := some (.int r2)) (w' := w2) rfl rfl rfl rfl h7).trans <|
    (runs_if_t (a := 94) (b := 90) (L := [.ref 34, .int x1, .int x2, .int x3, .int x4, .int x5]) (st := [.int x4, .ref 48]) (w := w2) rfl h8).trans <|
    (runs_stps (q' := (95, [.ref 34, .int x1, .int x2, .int x3, .int x4, .int x5], [.int 0, .int x4, .ref 48], w2)) 1 rfl).trans <|
    (runs_ck (q' := (96, [.ref 34, .int x1, .int x2, .int x3, .int x4, .int x5], [], updI w2 48 x4.toNatClampNeg (vp_nar .boolean 0))) rfl h9).trans <|
    (runs_stps (q' := (29, [.ref 34, .int x1, .int x2, .int x3, .int x4, .int (x5 + 1)], [], updI w2 48 x4.toNatClampNeg (vp_nar .boolean 0))) 2 rfl).trans <|
    rfl
theorem p_X9_canSay_29FFFFF_L29 {ex : Ex} {x1 : Int32} {x2 : Int32} {x3 : Int32} {x4 : Int32} {x5 : Int32} {r1 : Int32} {w1 : Wd} {r2 : Int32} {w2 : Wd} {w : Wd} (h1 : ¬ (w.1 34 15) ≤ x5) (h2 : vp_in x4 25) (h3 : (w.1 48 x4.toNatClampNeg) = 0) (h4 : ((x1 >>> (x5 &&& 31)) &&& 1) = 1) (h5 : ex 161 [.ref 34, .int x5, .int (x4 / 5)] w = some (some (.int r1), w1)) (h6 : ¬ r1 = 0) (h7 : ex 161 [.ref 34, .int x5, .int (x4 - x4 / 5 * 5)] w1 = some (some (.int r2), w2)) (h8 : ¬ r2 = 0) (h9 : vp_in x4 25) : runs (T_X9_canSay ex) (29, [.ref 34, .int x1, .int x2, .int x3, .int x4, .int x5], [], w) = runs (T_X9_canSay ex) (29, [.ref 34, .int x1, .int x2, .int x3, .int x4, .int (x5 + 1)], [], updI w2 48 x4.toNatClampNeg (vp_nar .boolean 1)) := 
    (runs_stps (q' := (35, [.ref 34, .int x1, .int x2, .int x3, .int x4, .int x5], [.int (w.1 34 15), .int x5], w)) 3 rfl).trans <|
    (runs_if_f (a := 102) (b := 38) (L := [.ref 34, .int x1, .int x2, .int x3, .int x4, .int x5]) (st := []) (w := w) rfl h1).trans <|
    (runs_stps (q' := (50, [.ref 34, .int x1, .int x2, .int x3, .int x4, .int x5], [.int x4, .ref 48, .int x4, .ref 48], w)) 6 rfl).trans <|
    (runs_ck (q' := (51, [.ref 34, .int x1, .int x2, .int x3, .int x4, .int x5], [.int (w.1 48 x4.toNatClampNeg), .int x4, .ref 48], w)) rfl h2).trans <|
    (runs_if_t (a := 54) (b := 90) (L := [.ref 34, .int x1, .int x2, .int x3, .int x4, .int x5]) (st := [.int x4, .ref 48]) (w := w) rfl h3).trans <|
    (runs_stps (q' := (61, [.ref 34, .int x1, .int x2, .int x3, .int x4, .int x5], [.int 1, .int ((x1 >>> (x5 &&& 31)) &&& 1), .int x4, .ref 48], w)) 6 rfl).trans <|
    (runs_if_t (a := 64) (b := 94) (L := [.ref 34, .int x1, .int x2, .int x3, .int x4, .int x5]) (st := [.int x4, .ref 48]) (w := w) rfl h4).trans <|
    (runs_stps (q' := (71, [.ref 34, .int x1, .int x2, .int x3, .int x4, .int x5], [.int (x4 / 5), .int x5, .ref 34, .int x4, .ref 48], w)) 5 rfl).trans <|
    (runs_callV (rv := some (.int r1)) (w' := w1) rfl rfl rfl rfl h5).trans <|
    (runs_if_f (a := 94) (b := 77) (L := [.ref 34, .int x1, .int x2, .int x3, .int x4, .int x5]) (st := [.int x4, .ref 48]) (w := w1) rfl h6).trans <|
    (runs_stps (q' := (84, [.ref 34, .int x1, .int x2, .int x3, .int x4, .int x5], [.int (x4 - x4 / 5 * 5), .int x5, .ref 34, .int x4, .ref 48], w1)) 5 rfl).trans <|
    (runs_callV (rv := some (.int r2)) (w' := w2) rfl rfl rfl rfl h7).trans <|
    (runs_if_f (a := 94) (b := 90) (L := [.ref 34, .int x1, .int x2, .int x3, .int x4, .int x5]) (st := [.int x4, .ref 48]) (w := w2) rfl h8).trans <|
    (runs_stps (q' := (95, [.ref 34, .int x1, .int x2, .int x3, .int x4, .int x5], [.int 1, .int x4, .ref 48], w2)) 2 rfl).trans <|
    (runs_ck (q' := (96, [.ref 34, .int x1, .int x2, .int x3, .int x4, .int x5], [], updI w2 48 x4.toNatClampNeg (vp_nar .boolean 1))) rfl h9).trans <|
    (runs_stps (q' := (29, [.ref 34, .int x1, .int x2, .int x3, .int x4, .int (x5 + 1)], [], updI w2 48 x4.toNatClampNeg (vp_nar .boolean 1))) 2 rfl).trans <|
    rfl
theorem p_X9_said_0TTTT_R {ex : Ex} {x1 : Int32} {x2 : Int32} {x3 : Int32} {r1 : Int32} {w1 : Wd} {r2 : Int32} {w2 : Wd} {w : Wd} (h1 : ex 158 [.int x1, .int 0] w = some (some (.int r1), w1)) (h2 : 5 ≤ x2) (h3 : ¬ r1 = (-9)) (h4 : ¬ x2 = 5) (h5 : ex 158 [.int x1, .int 1] w1 = some (some (.int r2), w2)) (h6 : r2 = (-9)) : runs (T_X9_said ex) (0, [.ref 34, .int x1, .int x2, .int x3, .null, .null], [], w) = some (some (.int (-9)), w2) := 
    (runs_stps (q' := (2, [.ref 34, .int x1, .int x2, .int x3, .null, .null], [.int 0, .int x1], w)) 2 rfl).trans <|
    (runs_callS (rv := some (.int r1)) (w' := w1) rfl rfl rfl h1).trans <|
    (runs_stps (q' := (9, [.ref 34, .int x1, .int x2, .int x3, .int r1, .null], [.int 5, .int x2], w1)) 3 rfl).trans <|
    (runs_if_t (a := 51) (b := 12) (L := [.ref 34, .int x1, .int x2, .int x3, .int r1, .null]) (st := []) (w := w1) rfl h2).trans <|
    (runs_stps (q' := (55, [.ref 34, .int x1, .int x2, .int x3, .int r1, .null], [.int (-9), .int r1], w1)) 2 rfl).trans <|
    (runs_if_f (a := 58) (b := 61) (L := [.ref 34, .int x1, .int x2, .int x3, .int r1, .null]) (st := []) (w := w1) rfl h3).trans <|
    (runs_stps (q' := (63, [.ref 34, .int x1, .int x2, .int x3, .int r1, .null], [.int 5, .int x2], w1)) 2 rfl).trans <|
    (runs_if_f (a := 66) (b := 88) (L := [.ref 34, .int x1, .int x2, .int x3, .int r1, .null]) (st := []) (w := w1) rfl h4).trans <|
    (runs_stps (q' := (90, [.ref 34, .int x1, .null, .int x3, .int r1, .null], [.int 1, .int x1], w1)) 2 rfl).trans <|
    (runs_callS (rv := some (.int r2)) (w' := w2) rfl rfl rfl h5).trans <|
    (runs_stps (q' := (99, [.ref 34, .int x1, .null, .int x3, .int r1, .int r2], [.int (-9), .int r2], w2)) 3 rfl).trans <|
    (runs_if_t (a := 121) (b := 102) (L := [.ref 34, .int x1, .null, .int x3, .int r1, .int r2]) (st := []) (w := w2) rfl h6).trans <|
    (runs_stps (q' := (123, [.null, .null, .null, .null, .null, .null], [.int (-9)], w2)) 1 rfl).trans <|
    runs_ret rfl
theorem p_X9_said_0TTTFT_R {ex : Ex} {x1 : Int32} {x2 : Int32} {x3 : Int32} {r1 : Int32} {w1 : Wd} {r2 : Int32} {w2 : Wd} {r3 : Int32} {w3 : Wd} {w : Wd} (h1 : ex 158 [.int x1, .int 0] w = some (some (.int r1), w1)) (h2 : 5 ≤ x2) (h3 : ¬ r1 = (-9)) (h4 : ¬ x2 = 5) (h5 : ex 158 [.int x1, .int 1] w1 = some (some (.int r2), w2)) (h6 : ¬ r2 = (-9)) (h7 : ex 170 [.ref 34, .int x3, .int r1, .int r2] w2 = some (some (.int r3), w3)) (h8 : r3 = 0) : runs (T_X9_said ex) (0, [.ref 34, .int x1, .int x2, .int x3, .null, .null], [], w) = some (some (.int (-9)), w3) := 
    (runs_stps (q' := (2, [.ref 34, .int x1, .int x2, .int x3, .null, .null], [.int 0, .int x1], w)) 2 rfl).trans <|
    (runs_callS (rv := some (.int r1)) (w' := w1) rfl rfl rfl h1).trans <|
    (runs_stps (q' := (9, [.ref 34, .int x1, .int x2, .int x3, .int r1, .null], [.int 5, .int x2], w1)) 3 rfl).trans <|
    (runs_if_t (a := 51) (b := 12) (L := [.ref 34, .int x1, .int x2, .int x3, .int r1, .null]) (st := []) (w := w1) rfl h2).trans <|
    (runs_stps (q' := (55, [.ref 34, .int x1, .int x2, .int x3, .int r1, .null], [.int (-9), .int r1], w1)) 2 rfl).trans <|
    (runs_if_f (a := 58) (b := 61) (L := [.ref 34, .int x1, .int x2, .int x3, .int r1, .null]) (st := []) (w := w1) rfl h3).trans <|
    (runs_stps (q' := (63, [.ref 34, .int x1, .int x2, .int x3, .int r1, .null], [.int 5, .int x2], w1)) 2 rfl).trans <|
    (runs_if_f (a := 66) (b := 88) (L := [.ref 34, .int x1, .int x2, .int x3, .int r1, .null]) (st := []) (w := w1) rfl h4).trans <|
    (runs_stps (q' := (90, [.ref 34, .int x1, .null, .int x3, .int r1, .null], [.int 1, .int x1], w1)) 2 rfl).trans <|
    (runs_callS (rv := some (.int r2)) (w' := w2) rfl rfl rfl h5).trans <|
    (runs_stps (q' := (99, [.ref 34, .int x1, .null, .int x3, .int r1, .int r2], [.int (-9), .int r2], w2)) 3 rfl).trans <|
    (runs_if_f (a := 121) (b := 102) (L := [.ref 34, .int x1, .null, .int x3, .int r1, .int r2]) (st := []) (w := w2) rfl h6).trans <|
    (runs_stps (q' := (108, [.ref 34, .int x1, .null, .int x3, .int r1, .int r2], [.int r2, .int r1, .int x3, .ref 34], w2)) 4 rfl).trans <|
    (runs_callV (rv := some (.int r3)) (w' := w3) rfl rfl rfl rfl h7).trans <|
    (runs_if_t (a := 121) (b := 114) (L := [.ref 34, .int x1, .null, .int x3, .int r1, .int r2]) (st := []) (w := w3) rfl h8).trans <|
    (runs_stps (q' := (123, [.null, .null, .null, .null, .null, .null], [.int (-9)], w3)) 1 rfl).trans <|
    runs_ret rfl
theorem p_X9_said_0TTTFF_R {ex : Ex} {x1 : Int32} {x2 : Int32} {x3 : Int32} {r1 : Int32} {w1 : Wd} {r2 : Int32} {w2 : Wd} {r3 : Int32} {w3 : Wd} {r4 : Int32} {w4 : Wd} {w : Wd} (h1 : ex 158 [.int x1, .int 0] w = some (some (.int r1), w1)) (h2 : 5 ≤ x2) (h3 : ¬ r1 = (-9)) (h4 : ¬ x2 = 5) (h5 : ex 158 [.int x1, .int 1] w1 = some (some (.int r2), w2)) (h6 : ¬ r2 = (-9)) (h7 : ex 170 [.ref 34, .int x3, .int r1, .int r2] w2 = some (some (.int r3), w3)) (h8 : ¬ r3 = 0) (h9 : ex 165 [.int x1] w3 = some (some (.int r4), w4)) : runs (T_X9_said ex) (0, [.ref 34, .int x1, .int x2, .int x3, .null, .null], [], w) = some (some (.int r4), w4) := 
    (runs_stps (q' := (2, [.ref 34, .int x1, .int x2, .int x3, .null, .null], [.int 0, .int x1], w)) 2 rfl).trans <|
    (runs_callS (rv := some (.int r1)) (w' := w1) rfl rfl rfl h1).trans <|
    (runs_stps (q' := (9, [.ref 34, .int x1, .int x2, .int x3, .int r1, .null], [.int 5, .int x2], w1)) 3 rfl).trans <|
    (runs_if_t (a := 51) (b := 12) (L := [.ref 34, .int x1, .int x2, .int x3, .int r1, .null]) (st := []) (w := w1) rfl h2).trans <|
    (runs_stps (q' := (55, [.ref 34, .int x1, .int x2, .int x3, .int r1, .null], [.int (-9), .int r1], w1)) 2 rfl).trans <|
    (runs_if_f (a := 58) (b := 61) (L := [.ref 34, .int x1, .int x2, .int x3, .int r1, .null]) (st := []) (w := w1) rfl h3).trans <|
    (runs_stps (q' := (63, [.ref 34, .int x1, .int x2, .int x3, .int r1, .null], [.int 5, .int x2], w1)) 2 rfl).trans <|
    (runs_if_f (a := 66) (b := 88) (L := [.ref 34, .int x1, .int x2, .int x3, .int r1, .null]) (st := []) (w := w1) rfl h4).trans <|
    (runs_stps (q' := (90, [.ref 34, .int x1, .null, .int x3, .int r1, .null], [.int 1, .int x1], w1)) 2 rfl).trans <|
    (runs_callS (rv := some (.int r2)) (w' := w2) rfl rfl rfl h5).trans <|
    (runs_stps (q' := (99, [.ref 34, .int x1, .null, .int x3, .int r1, .int r2], [.int (-9), .int r2], w2)) 3 rfl).trans <|
    (runs_if_f (a := 121) (b := 102) (L := [.ref 34, .int x1, .null, .int x3, .int r1, .int r2]) (st := []) (w := w2) rfl h6).trans <|
    (runs_stps (q' := (108, [.ref 34, .int x1, .null, .int x3, .int r1, .int r2], [.int r2, .int r1, .int x3, .ref 34], w2)) 4 rfl).trans <|
    (runs_callV (rv := some (.int r3)) (w' := w3) rfl rfl rfl rfl h7).trans <|
    (runs_if_f (a := 121) (b := 114) (L := [.ref 34, .int x1, .null, .int x3, .int r1, .int r2]) (st := []) (w := w3) rfl h8).trans <|
    (runs_stps (q' := (115, [.ref 34, .int x1, .null, .int x3, .int r1, .int r2], [.int x1], w3)) 1 rfl).trans <|
    (runs_callS (rv := some (.int r4)) (w' := w4) rfl rfl rfl h9).trans <|
    (runs_stps (q' := (123, [.ref 34, .int x1, .null, .int x3, .int r1, .int r2], [.int r4], w4)) 1 rfl).trans <|
    runs_ret rfl
theorem p_X9_said_0TTFT_R {ex : Ex} {x1 : Int32} {x2 : Int32} {x3 : Int32} {r1 : Int32} {w1 : Wd} {r2 : Int32} {w2 : Wd} {w : Wd} (h1 : ex 158 [.int x1, .int 0] w = some (some (.int r1), w1)) (h2 : 5 ≤ x2) (h3 : ¬ r1 = (-9)) (h4 : x2 = 5) (h5 : ex 170 [.ref 34, .int x3, .int r1, .int r1] w1 = some (some (.int r2), w2)) (h6 : r2 = 0) : runs (T_X9_said ex) (0, [.ref 34, .int x1, .int x2, .int x3, .null, .null], [], w) = some (some (.int (-9)), w2) := 
    (runs_stps (q' := (2, [.ref 34, .int x1, .int x2, .int x3, .null, .null], [.int 0, .int x1], w)) 2 rfl).trans <|
    (runs_callS (rv := some (.int r1)) (w' := w1) rfl rfl rfl h1).trans <|
    (runs_stps (q' := (9, [.ref 34, .int x1, .int x2, .int x3, .int r1, .null], [.int 5, .int x2], w1)) 3 rfl).trans <|
    (runs_if_t (a := 51) (b := 12) (L := [.ref 34, .int x1, .int x2, .int x3, .int r1, .null]) (st := []) (w := w1) rfl h2).trans <|
    (runs_stps (q' := (55, [.ref 34, .int x1, .int x2, .int x3, .int r1, .null], [.int (-9), .int r1], w1)) 2 rfl).trans <|
    (runs_if_f (a := 58) (b := 61) (L := [.ref 34, .int x1, .int x2, .int x3, .int r1, .null]) (st := []) (w := w1) rfl h3).trans <|
    (runs_stps (q' := (63, [.ref 34, .int x1, .int x2, .int x3, .int r1, .null], [.int 5, .int x2], w1)) 2 rfl).trans <|
    (runs_if_t (a := 66) (b := 88) (L := [.ref 34, .int x1, .int x2, .int x3, .int r1, .null]) (st := []) (w := w1) rfl h4).trans <|
    (runs_stps (q' := (72, [.ref 34, .int x1, .int x2, .int x3, .int r1, .null], [.int r1, .int r1, .int x3, .ref 34], w1)) 4 rfl).trans <|
    (runs_callV (rv := some (.int r2)) (w' := w2) rfl rfl rfl rfl h5).trans <|
    (runs_if_t (a := 85) (b := 78) (L := [.ref 34, .int x1, .int x2, .int x3, .int r1, .null]) (st := []) (w := w2) rfl h6).trans <|
    (runs_stps (q' := (87, [.null, .null, .null, .null, .null, .null], [.int (-9)], w2)) 1 rfl).trans <|
    runs_ret rfl
theorem p_X9_said_0TTFF_R {ex : Ex} {x1 : Int32} {x2 : Int32} {x3 : Int32} {r1 : Int32} {w1 : Wd} {r2 : Int32} {w2 : Wd} {w : Wd} (h1 : ex 158 [.int x1, .int 0] w = some (some (.int r1), w1)) (h2 : 5 ≤ x2) (h3 : ¬ r1 = (-9)) (h4 : x2 = 5) (h5 : ex 170 [.ref 34, .int x3, .int r1, .int r1] w1 = some (some (.int r2), w2)) (h6 : ¬ r2 = 0) : runs (T_X9_said ex) (0, [.ref 34, .int x1, .int x2, .int x3, .null, .null], [], w) = some (some (.int (x1 / 6)), w2) := 
    (runs_stps (q' := (2, [.ref 34, .int x1, .int x2, .int x3, .null, .null], [.int 0, .int x1], w)) 2 rfl).trans <|
    (runs_callS (rv := some (.int r1)) (w' := w1) rfl rfl rfl h1).trans <|
    (runs_stps (q' := (9, [.ref 34, .int x1, .int x2, .int x3, .int r1, .null], [.int 5, .int x2], w1)) 3 rfl).trans <|
    (runs_if_t (a := 51) (b := 12) (L := [.ref 34, .int x1, .int x2, .int x3, .int r1, .null]) (st := []) (w := w1) rfl h2).trans <|
    (runs_stps (q' := (55, [.ref 34, .int x1, .int x2, .int x3, .int r1, .null], [.int (-9), .int r1], w1)) 2 rfl).trans <|
    (runs_if_f (a := 58) (b := 61) (L := [.ref 34, .int x1, .int x2, .int x3, .int r1, .null]) (st := []) (w := w1) rfl h3).trans <|
    (runs_stps (q' := (63, [.ref 34, .int x1, .int x2, .int x3, .int r1, .null], [.int 5, .int x2], w1)) 2 rfl).trans <|
    (runs_if_t (a := 66) (b := 88) (L := [.ref 34, .int x1, .int x2, .int x3, .int r1, .null]) (st := []) (w := w1) rfl h4).trans <|
    (runs_stps (q' := (72, [.ref 34, .int x1, .int x2, .int x3, .int r1, .null], [.int r1, .int r1, .int x3, .ref 34], w1)) 4 rfl).trans <|
    (runs_callV (rv := some (.int r2)) (w' := w2) rfl rfl rfl rfl h5).trans <|
    (runs_if_f (a := 85) (b := 78) (L := [.ref 34, .int x1, .int x2, .int x3, .int r1, .null]) (st := []) (w := w2) rfl h6).trans <|
    (runs_stps (q' := (87, [.ref 34, .int x1, .int x2, .int x3, .int r1, .null], [.int (x1 / 6)], w2)) 4 rfl).trans <|
    runs_ret rfl
theorem p_X9_said_0TF_R {ex : Ex} {x1 : Int32} {x2 : Int32} {x3 : Int32} {r1 : Int32} {w1 : Wd} {w : Wd} (h1 : ex 158 [.int x1, .int 0] w = some (some (.int r1), w1)) (h2 : 5 ≤ x2) (h3 : r1 = (-9)) : runs (T_X9_said ex) (0, [.ref 34, .int x1, .int x2, .int x3, .null, .null], [], w) = some (some (.int (-9)), w1) := 
    (runs_stps (q' := (2, [.ref 34, .int x1, .int x2, .int x3, .null, .null], [.int 0, .int x1], w)) 2 rfl).trans <|
    (runs_callS (rv := some (.int r1)) (w' := w1) rfl rfl rfl h1).trans <|
    (runs_stps (q' := (9, [.ref 34, .int x1, .int x2, .int x3, .int r1, .null], [.int 5, .int x2], w1)) 3 rfl).trans <|
    (runs_if_t (a := 51) (b := 12) (L := [.ref 34, .int x1, .int x2, .int x3, .int r1, .null]) (st := []) (w := w1) rfl h2).trans <|
    (runs_stps (q' := (55, [.ref 34, .int x1, .int x2, .int x3, .int r1, .null], [.int (-9), .int r1], w1)) 2 rfl).trans <|
    (runs_if_t (a := 58) (b := 61) (L := [.ref 34, .int x1, .int x2, .int x3, .int r1, .null]) (st := []) (w := w1) rfl h3).trans <|
    (runs_stps (q' := (60, [.ref 34, .int x1, .int x2, .int x3, .int r1, .null], [.int (-9)], w1)) 1 rfl).trans <|
    runs_ret rfl
theorem p_X9_said_0FT_R {ex : Ex} {x1 : Int32} {x2 : Int32} {x3 : Int32} {r1 : Int32} {w1 : Wd} {w : Wd} (h1 : ex 158 [.int x1, .int 0] w = some (some (.int r1), w1)) (h2 : ¬ 5 ≤ x2) (h3 : (w1.1 34 13) ≤ x2) : runs (T_X9_said ex) (0, [.ref 34, .int x1, .int x2, .int x3, .null, .null], [], w) = some (some (.int (-9)), w1) := 
    (runs_stps (q' := (2, [.ref 34, .int x1, .int x2, .int x3, .null, .null], [.int 0, .int x1], w)) 2 rfl).trans <|
    (runs_callS (rv := some (.int r1)) (w' := w1) rfl rfl rfl h1).trans <|
    (runs_stps (q' := (9, [.ref 34, .int x1, .int x2, .int x3, .int r1, .null], [.int 5, .int x2], w1)) 3 rfl).trans <|
    (runs_if_f (a := 51) (b := 12) (L := [.ref 34, .int x1, .int x2, .int x3, .int r1, .null]) (st := []) (w := w1) rfl h2).trans <|
    (runs_stps (q' := (17, [.ref 34, .int x1, .int x2, .int x3, .int r1, .null], [.int (w1.1 34 13), .int x2], w1)) 3 rfl).trans <|
    (runs_if_t (a := 48) (b := 20) (L := [.ref 34, .int x1, .int x2, .int x3, .int r1, .null]) (st := []) (w := w1) rfl h3).trans <|
    (runs_stps (q' := (50, [.null, .null, .null, .null, .null, .null], [.int (-9)], w1)) 1 rfl).trans <|
    runs_ret rfl
theorem p_X9_said_0FFT_R {ex : Ex} {x1 : Int32} {x2 : Int32} {x3 : Int32} {r1 : Int32} {w1 : Wd} {w : Wd} (h1 : ex 158 [.int x1, .int 0] w = some (some (.int r1), w1)) (h2 : ¬ 5 ≤ x2) (h3 : ¬ (w1.1 34 13) ≤ x2) (h4 : 1296 ≤ x1) : runs (T_X9_said ex) (0, [.ref 34, .int x1, .int x2, .int x3, .null, .null], [], w) = some (some (.int (-9)), w1) := 
    (runs_stps (q' := (2, [.ref 34, .int x1, .int x2, .int x3, .null, .null], [.int 0, .int x1], w)) 2 rfl).trans <|
    (runs_callS (rv := some (.int r1)) (w' := w1) rfl rfl rfl h1).trans <|
    (runs_stps (q' := (9, [.ref 34, .int x1, .int x2, .int x3, .int r1, .null], [.int 5, .int x2], w1)) 3 rfl).trans <|
    (runs_if_f (a := 51) (b := 12) (L := [.ref 34, .int x1, .int x2, .int x3, .int r1, .null]) (st := []) (w := w1) rfl h2).trans <|
    (runs_stps (q' := (17, [.ref 34, .int x1, .int x2, .int x3, .int r1, .null], [.int (w1.1 34 13), .int x2], w1)) 3 rfl).trans <|
    (runs_if_f (a := 48) (b := 20) (L := [.ref 34, .int x1, .int x2, .int x3, .int r1, .null]) (st := []) (w := w1) rfl h3).trans <|
    (runs_stps (q' := (24, [.ref 34, .int x1, .int x2, .int x3, .int r1, .null], [.int 1296, .int x1], w1)) 2 rfl).trans <|
    (runs_if_t (a := 48) (b := 27) (L := [.ref 34, .int x1, .int x2, .int x3, .int r1, .null]) (st := []) (w := w1) rfl h4).trans <|
    (runs_stps (q' := (50, [.null, .null, .null, .null, .null, .null], [.int (-9)], w1)) 1 rfl).trans <|
    runs_ret rfl
theorem p_X9_said_0FFFT_R {ex : Ex} {x1 : Int32} {x2 : Int32} {x3 : Int32} {r1 : Int32} {w1 : Wd} {r2 : Int32} {w2 : Wd} {w : Wd} (h1 : ex 158 [.int x1, .int 0] w = some (some (.int r1), w1)) (h2 : ¬ 5 ≤ x2) (h3 : ¬ (w1.1 34 13) ≤ x2) (h4 : ¬ 1296 ≤ x1) (h5 : ex 170 [.ref 34, .int x3, .int x2, .int x2] w1 = some (some (.int r2), w2)) (h6 : r2 = 0) : runs (T_X9_said ex) (0, [.ref 34, .int x1, .int x2, .int x3, .null, .null], [], w) = some (some (.int (-9)), w2) := 
    (runs_stps (q' := (2, [.ref 34, .int x1, .int x2, .int x3, .null, .null], [.int 0, .int x1], w)) 2 rfl).trans <|
    (runs_callS (rv := some (.int r1)) (w' := w1) rfl rfl rfl h1).trans <|
    (runs_stps (q' := (9, [.ref 34, .int x1, .int x2, .int x3, .int r1, .null], [.int 5, .int x2], w1)) 3 rfl).trans <|
    (runs_if_f (a := 51) (b := 12) (L := [.ref 34, .int x1, .int x2, .int x3, .int r1, .null]) (st := []) (w := w1) rfl h2).trans <|
    (runs_stps (q' := (17, [.ref 34, .int x1, .int x2, .int x3, .int r1, .null], [.int (w1.1 34 13), .int x2], w1)) 3 rfl).trans <|
    (runs_if_f (a := 48) (b := 20) (L := [.ref 34, .int x1, .int x2, .int x3, .int r1, .null]) (st := []) (w := w1) rfl h3).trans <|
    (runs_stps (q' := (24, [.ref 34, .int x1, .int x2, .int x3, .int r1, .null], [.int 1296, .int x1], w1)) 2 rfl).trans <|
    (runs_if_f (a := 48) (b := 27) (L := [.ref 34, .int x1, .int x2, .int x3, .int r1, .null]) (st := []) (w := w1) rfl h4).trans <|
    (runs_stps (q' := (31, [.ref 34, .int x1, .int x2, .int x3, .int r1, .null], [.int x2, .int x2, .int x3, .ref 34], w1)) 4 rfl).trans <|
    (runs_callV (rv := some (.int r2)) (w' := w2) rfl rfl rfl rfl h5).trans <|
    (runs_if_t (a := 48) (b := 37) (L := [.ref 34, .int x1, .int x2, .int x3, .int r1, .null]) (st := []) (w := w2) rfl h6).trans <|
    (runs_stps (q' := (50, [.null, .null, .null, .null, .null, .null], [.int (-9)], w2)) 1 rfl).trans <|
    runs_ret rfl
theorem p_X9_said_0FFFF_R {ex : Ex} {x1 : Int32} {x2 : Int32} {x3 : Int32} {r1 : Int32} {w1 : Wd} {r2 : Int32} {w2 : Wd} {w : Wd} (h1 : ex 158 [.int x1, .int 0] w = some (some (.int r1), w1)) (h2 : ¬ 5 ≤ x2) (h3 : ¬ (w1.1 34 13) ≤ x2) (h4 : ¬ 1296 ≤ x1) (h5 : ex 170 [.ref 34, .int x3, .int x2, .int x2] w1 = some (some (.int r2), w2)) (h6 : ¬ r2 = 0) : runs (T_X9_said ex) (0, [.ref 34, .int x1, .int x2, .int x3, .null, .null], [], w) = some (some (.int (((6 * x1) + x2) + 1)), w2) := 
    (runs_stps (q' := (2, [.ref 34, .int x1, .int x2, .int x3, .null, .null], [.int 0, .int x1], w)) 2 rfl).trans <|
    (runs_callS (rv := some (.int r1)) (w' := w1) rfl rfl rfl h1).trans <|
    (runs_stps (q' := (9, [.ref 34, .int x1, .int x2, .int x3, .int r1, .null], [.int 5, .int x2], w1)) 3 rfl).trans <|
    (runs_if_f (a := 51) (b := 12) (L := [.ref 34, .int x1, .int x2, .int x3, .int r1, .null]) (st := []) (w := w1) rfl h2).trans <|
    (runs_stps (q' := (17, [.ref 34, .int x1, .int x2, .int x3, .int r1, .null], [.int (w1.1 34 13), .int x2], w1)) 3 rfl).trans <|
    (runs_if_f (a := 48) (b := 20) (L := [.ref 34, .int x1, .int x2, .int x3, .int r1, .null]) (st := []) (w := w1) rfl h3).trans <|
    (runs_stps (q' := (24, [.ref 34, .int x1, .int x2, .int x3, .int r1, .null], [.int 1296, .int x1], w1)) 2 rfl).trans <|
    (runs_if_f (a := 48) (b := 27) (L := [.ref 34, .int x1, .int x2, .int x3, .int r1, .null]) (st := []) (w := w1) rfl h4).trans <|
    (runs_stps (q' := (31, [.ref 34, .int x1, .int x2, .int x3, .int r1, .null], [.int x2, .int x2, .int x3, .ref 34], w1)) 4 rfl).trans <|
    (runs_callV (rv := some (.int r2)) (w' := w2) rfl rfl rfl rfl h5).trans <|
    (runs_if_f (a := 48) (b := 37) (L := [.ref 34, .int x1, .int x2, .int x3, .int r1, .null]) (st := []) (w := w2) rfl h6).trans <|
    (runs_stps (q' := (50, [.ref 34, .int x1, .int x2, .int x3, .int r1, .null], [.int (((6 * x1) + x2) + 1)], w2)) 8 rfl).trans <|
    runs_ret rfl
theorem p_X9_costOf_0TT_R {ex : Ex} {x1 : Int32} {x2 : Int32} {w : Wd} (h1 : 5 ≤ x2) (h2 : ¬ x2 = 5) : runs (T_X9_costOf ex) (0, [.ref 34, .int x1, .int x2, .null], [], w) = some (some (.int ((1000 * (w.1 39 3)) + 1)), w) := 
    (runs_stps (q' := (2, [.ref 34, .int x1, .int x2, .null], [.int 5, .int x2], w)) 2 rfl).trans <|
    (runs_if_t (a := 18) (b := 5) (L := [.ref 34, .int x1, .int x2, .null]) (st := []) (w := w) rfl h1).trans <|
    (runs_stps (q' := (20, [.ref 34, .int x1, .int x2, .null], [.int 5, .int x2], w)) 2 rfl).trans <|
    (runs_if_f (a := 23) (b := 40) (L := [.ref 34, .int x1, .int x2, .null]) (st := []) (w := w) rfl h2).trans <|
    (runs_stps (q' := (54, [.null, .null, .null, .int (w.1 39 3)], [.int ((1000 * (w.1 39 3)) + 1)], w)) 10 rfl).trans <|
    runs_ret rfl
theorem p_X9_costOf_0TF_R {ex : Ex} {x1 : Int32} {x2 : Int32} {r1 : Int32} {w1 : Wd} {w : Wd} (h1 : 5 ≤ x2) (h2 : x2 = 5) (h3 : ex 158 [.int x1, .int 0] w = some (some (.int r1), w1)) (h4 : vp_in ((4 * r1) + 3) 40) : runs (T_X9_costOf ex) (0, [.ref 34, .int x1, .int x2, .null], [], w) = some (some (.int ((1000 * (w1.1 36 (((4 * r1) + 3).toNatClampNeg))) + 1)), w1) := 
    (runs_stps (q' := (2, [.ref 34, .int x1, .int x2, .null], [.int 5, .int x2], w)) 2 rfl).trans <|
    (runs_if_t (a := 18) (b := 5) (L := [.ref 34, .int x1, .int x2, .null]) (st := []) (w := w) rfl h1).trans <|
    (runs_stps (q' := (20, [.ref 34, .int x1, .int x2, .null], [.int 5, .int x2], w)) 2 rfl).trans <|
    (runs_if_t (a := 23) (b := 40) (L := [.ref 34, .int x1, .int x2, .null]) (st := []) (w := w) rfl h2).trans <|
    (runs_stps (q' := (30, [.ref 34, .int x1, .int x2, .null], [.int 0, .int x1, .int 4, .ref 36], w)) 5 rfl).trans <|
    (runs_callS (rv := some (.int r1)) (w' := w1) rfl rfl rfl h3).trans <|
    (runs_stps (q' := (36, [.ref 34, .int x1, .int x2, .null], [.int ((4 * r1) + 3), .ref 36], w1)) 3 rfl).trans <|
    (runs_ck (q' := (37, [.ref 34, .int x1, .int x2, .null], [.int (w1.1 36 (((4 * r1) + 3).toNatClampNeg))], w1)) rfl h4).trans <|
    (runs_stps (q' := (54, [.null, .null, .null, .int (w1.1 36 (((4 * r1) + 3).toNatClampNeg))], [.int ((1000 * (w1.1 36 (((4 * r1) + 3).toNatClampNeg))) + 1)], w1)) 7 rfl).trans <|
    runs_ret rfl
theorem p_X9_costOf_0F_R {ex : Ex} {x1 : Int32} {x2 : Int32} {w : Wd} (h1 : ¬ 5 ≤ x2) (h2 : vp_in ((4 * x2) + 2) 40) : runs (T_X9_costOf ex) (0, [.ref 34, .int x1, .int x2, .null], [], w) = some (some (.int ((1000 * (w.1 36 (((4 * x2) + 2).toNatClampNeg))) + 1)), w) := 
    (runs_stps (q' := (2, [.ref 34, .int x1, .int x2, .null], [.int 5, .int x2], w)) 2 rfl).trans <|
    (runs_if_f (a := 18) (b := 5) (L := [.ref 34, .int x1, .int x2, .null]) (st := []) (w := w) rfl h1).trans <|
    (runs_stps (q' := (14, [.ref 34, .int x1, .int x2, .null], [.int ((4 * x2) + 2), .ref 36], w)) 7 rfl).trans <|
    (runs_ck (q' := (15, [.ref 34, .int x1, .int x2, .null], [.int (w.1 36 (((4 * x2) + 2).toNatClampNeg))], w)) rfl h2).trans <|
    (runs_stps (q' := (54, [.null, .null, .null, .int (w.1 36 (((4 * x2) + 2).toNatClampNeg))], [.int ((1000 * (w.1 36 (((4 * x2) + 2).toNatClampNeg))) + 1)], w)) 7 rfl).trans <|
    runs_ret rfl
theorem p_X9_isRow_0_L4 {ex : Ex} {x1 : Int32} {w : Wd} : runs (T_X9_isRow ex) (0, [.ref 34, .int x1, .null, .null], [], w) = runs (T_X9_isRow ex) (4, [.ref 34, .int x1, .int 1, .int x1], [], w) := 
    (runs_stps (q' := (4, [.ref 34, .int x1, .int 1, .int x1], [], w)) 4 rfl).trans <|
    rfl
theorem p_X9_isRow_4T_R {ex : Ex} {v1 : Value} {x2 : Int32} {x3 : Int32} {w : Wd} (h1 : x3 ≤ 0) (h2 : x2 = 0 ∨ x2 = 1) : runs (T_X9_isRow ex) (4, [.ref 34, v1, .int x2, .int x3], [], w) = some (some (.int x2), w) := 
    (runs_stps (q' := (5, [.ref 34, .null, .int x2, .int x3], [.int x3], w)) 1 rfl).trans <|
    (runs_if_t (a := 41) (b := 8) (L := [.ref 34, .null, .int x2, .int x3]) (st := []) (w := w) rfl h1).trans <|
    (runs_stps (q' := (42, [.null, .null, .int x2, .null], [.int x2], w)) 1 rfl).trans <|
    runs_rck rfl h2
theorem p_X9_isRow_4FT_L4 {ex : Ex} {v1 : Value} {x2 : Int32} {x3 : Int32} {w : Wd} (h1 : ¬ x3 ≤ 0) (h2 : x2 = 0) : runs (T_X9_isRow ex) (4, [.ref 34, v1, .int x2, .int x3], [], w) = runs (T_X9_isRow ex) (4, [.ref 34, .null, .int 0, .int (x3 / 6)], [], w) := 
    (runs_stps (q' := (5, [.ref 34, .null, .int x2, .int x3], [.int x3], w)) 1 rfl).trans <|
    (runs_if_f (a := 41) (b := 8) (L := [.ref 34, .null, .int x2, .int x3]) (st := []) (w := w) rfl h1).trans <|
    (runs_stps (q' := (9, [.ref 34, .null, .int x2, .int x3], [.int x2], w)) 1 rfl).trans <|
    (runs_if_t (a := 31) (b := 12) (L := [.ref 34, .null, .int x2, .int x3]) (st := []) (w := w) rfl h2).trans <|
    (runs_stps (q' := (4, [.ref 34, .null, .int 0, .int (x3 / 6)], [], w)) 7 rfl).trans <|
    rfl
theorem p_X9_isRow_4FFT_L4 {ex : Ex} {v1 : Value} {x2 : Int32} {x3 : Int32} {r1 : Int32} {w1 : Wd} {w : Wd} (h1 : ¬ x3 ≤ 0) (h2 : ¬ x2 = 0) (h3 : ex 135 [.int (x3 - x3 / 6 * 6), .int 1, .int (w.1 34 13)] w = some (some (.int r1), w1)) (h4 : r1 = 0) : runs (T_X9_isRow ex) (4, [.ref 34, v1, .int x2, .int x3], [], w) = runs (T_X9_isRow ex) (4, [.ref 34, .null, .int 0, .int (x3 / 6)], [], w1) := 
    (runs_stps (q' := (5, [.ref 34, .null, .int x2, .int x3], [.int x3], w)) 1 rfl).trans <|
    (runs_if_f (a := 41) (b := 8) (L := [.ref 34, .null, .int x2, .int x3]) (st := []) (w := w) rfl h1).trans <|
    (runs_stps (q' := (9, [.ref 34, .null, .int x2, .int x3], [.int x2], w)) 1 rfl).trans <|
    (runs_if_f (a := 31) (b := 12) (L := [.ref 34, .null, .int x2, .int x3]) (st := []) (w := w) rfl h2).trans <|
    (runs_stps (q' := (21, [.ref 34, .null, .int x2, .int x3], [.int (w.1 34 13), .int 1, .int (x3 - x3 / 6 * 6)], w)) 6 rfl).trans <|
    (runs_callS (rv := some (.int r1)) (w' := w1) rfl rfl rfl h3).trans <|
    (runs_if_t (a := 31) (b := 27) (L := [.ref 34, .null, .int x2, .int x3]) (st := []) (w := w1) rfl h4).trans <|
    (runs_stps (q' := (4, [.ref 34, .null, .int 0, .int (x3 / 6)], [], w1)) 7 rfl).trans <|
    rfl
theorem p_X9_isRow_4FFF_L4 {ex : Ex} {v1 : Value} {x2 : Int32} {x3 : Int32} {r1 : Int32} {w1 : Wd} {w : Wd} (h1 : ¬ x3 ≤ 0) (h2 : ¬ x2 = 0) (h3 : ex 135 [.int (x3 - x3 / 6 * 6), .int 1, .int (w.1 34 13)] w = some (some (.int r1), w1)) (h4 : ¬ r1 = 0) : runs (T_X9_isRow ex) (4, [.ref 34, v1, .int x2, .int x3], [], w) = runs (T_X9_isRow ex) (4, [.ref 34, .null, .int 1, .int (x3 / 6)], [], w1) := 
    (runs_stps (q' := (5, [.ref 34, .null, .int x2, .int x3], [.int x3], w)) 1 rfl).trans <|
    (runs_if_f (a := 41) (b := 8) (L := [.ref 34, .null, .int x2, .int x3]) (st := []) (w := w) rfl h1).trans <|
    (runs_stps (q' := (9, [.ref 34, .null, .int x2, .int x3], [.int x2], w)) 1 rfl).trans <|
    (runs_if_f (a := 31) (b := 12) (L := [.ref 34, .null, .int x2, .int x3]) (st := []) (w := w) rfl h2).trans <|
    (runs_stps (q' := (21, [.ref 34, .null, .int x2, .int x3], [.int (w.1 34 13), .int 1, .int (x3 - x3 / 6 * 6)], w)) 6 rfl).trans <|
    (runs_callS (rv := some (.int r1)) (w' := w1) rfl rfl rfl h3).trans <|
    (runs_if_f (a := 31) (b := 27) (L := [.ref 34, .null, .int x2, .int x3]) (st := []) (w := w1) rfl h4).trans <|
    (runs_stps (q' := (4, [.ref 34, .null, .int 1, .int (x3 / 6)], [], w1)) 8 rfl).trans <|
    rfl
theorem p_X9_wayFrom_0_L10 {ex : Ex} {x1 : Int32} {x2 : Int32} {w : Wd} (h1 : vp_in x1 7776) : runs (T_X9_wayFrom ex) (0, [.ref 34, .int x1, .int x2, .null, .null, .null], [], w) = runs (T_X9_wayFrom ex) (10, [.ref 34, .int x1, .int x2, .int (w.1 46 x1.toNatClampNeg), .int 0, .null], [], w) := 
    (runs_stps (q' := (5, [.ref 34, .int x1, .int x2, .null, .null, .null], [.int x1, .ref 46], w)) 3 rfl).trans <|
    (runs_ck (q' := (6, [.ref 34, .int x1, .int x2, .null, .null, .null], [.int (w.1 46 x1.toNatClampNeg)], w)) rfl h1).trans <|
    (runs_stps (q' := (10, [.ref 34, .int x1, .int x2, .int (w.1 46 x1.toNatClampNeg), .int 0, .null], [], w)) 3 rfl).trans <|
    rfl
theorem p_X9_wayFrom_10T_R {ex : Ex} {x1 : Int32} {x2 : Int32} {x3 : Int32} {x4 : Int32} {v5 : Value} {w : Wd} (h1 : 6 < x4) : runs (T_X9_wayFrom ex) (10, [.ref 34, .int x1, .int x2, .int x3, .int x4, v5], [], w) = some (some (.int x3), w) := 
    (runs_stps (q' := (14, [.ref 34, .int x1, .int x2, .int x3, .int x4, .null], [.int 6, .int x4], w)) 2 rfl).trans <|
    (runs_if_t (a := 87) (b := 17) (L := [.ref 34, .int x1, .int x2, .int x3, .int x4, .null]) (st := []) (w := w) rfl h1).trans <|
    (runs_stps (q' := (88, [.null, .null, .null, .int x3, .null, .null], [.int x3], w)) 1 rfl).trans <|
    runs_ret rfl
theorem p_X9_wayFrom_10FT_L10 {ex : Ex} {x1 : Int32} {x2 : Int32} {x3 : Int32} {x4 : Int32} {v5 : Value} {r1 : Int32} {w1 : Wd} {w : Wd} (h1 : ¬ 6 < x4) (h2 : ex 171 [.ref 34, .int x1, .int x4, .int x2] w = some (some (.int r1), w1)) (h3 : r1 = (-9)) : runs (T_X9_wayFrom ex) (10, [.ref 34, .int x1, .int x2, .int x3, .int x4, v5], [], w) = runs (T_X9_wayFrom ex) (10, [.ref 34, .int x1, .int x2, .int x3, .int (x4 + 1), .null], [], w1) := 
    (runs_stps (q' := (14, [.ref 34, .int x1, .int x2, .int x3, .int x4, .null], [.int 6, .int x4], w)) 2 rfl).trans <|
    (runs_if_f (a := 87) (b := 17) (L := [.ref 34, .int x1, .int x2, .int x3, .int x4, .null]) (st := []) (w := w) rfl h1).trans <|
    (runs_stps (q' := (22, [.ref 34, .int x1, .int x2, .int x3, .int x4, .null], [.int x2, .int x4, .int x1, .ref 34], w)) 4 rfl).trans <|
    (runs_callV (rv := some (.int r1)) (w' := w1) rfl rfl rfl rfl h2).trans <|
    (runs_stps (q' := (31, [.ref 34, .int x1, .int x2, .int x3, .int x4, .int r1], [.int (-9), .int r1], w1)) 3 rfl).trans <|
    (runs_if_t (a := 81) (b := 34) (L := [.ref 34, .int x1, .int x2, .int x3, .int x4, .int r1]) (st := []) (w := w1) rfl h3).trans <|
    (runs_stps (q' := (10, [.ref 34, .int x1, .int x2, .int x3, .int (x4 + 1), .null], [], w1)) 2 rfl).trans <|
    rfl
theorem p_X9_wayFrom_10FFT_L10 {ex : Ex} {x1 : Int32} {x2 : Int32} {x3 : Int32} {x4 : Int32} {v5 : Value} {r1 : Int32} {w1 : Wd} {w : Wd} (h1 : ¬ 6 < x4) (h2 : ex 171 [.ref 34, .int x1, .int x4, .int x2] w = some (some (.int r1), w1)) (h3 : ¬ r1 = (-9)) (h4 : vp_in r1 7776) (h5 : 1000000 ≤ (w1.1 46 r1.toNatClampNeg)) : runs (T_X9_wayFrom ex) (10, [.ref 34, .int x1, .int x2, .int x3, .int x4, v5], [], w) = runs (T_X9_wayFrom ex) (10, [.ref 34, .int x1, .int x2, .int x3, .int (x4 + 1), .null], [], w1) := 
    (runs_stps (q' := (14, [.ref 34, .int x1, .int x2, .int x3, .int x4, .null], [.int 6, .int x4], w)) 2 rfl).trans <|
    (runs_if_f (a := 87) (b := 17) (L := [.ref 34, .int x1, .int x2, .int x3, .int x4, .null]) (st := []) (w := w) rfl h1).trans <|
    (runs_stps (q' := (22, [.ref 34, .int x1, .int x2, .int x3, .int x4, .null], [.int x2, .int x4, .int x1, .ref 34], w)) 4 rfl).trans <|
    (runs_callV (rv := some (.int r1)) (w' := w1) rfl rfl rfl rfl h2).trans <|
    (runs_stps (q' := (31, [.ref 34, .int x1, .int x2, .int x3, .int x4, .int r1], [.int (-9), .int r1], w1)) 3 rfl).trans <|
    (runs_if_f (a := 81) (b := 34) (L := [.ref 34, .int x1, .int x2, .int x3, .int x4, .int r1]) (st := []) (w := w1) rfl h3).trans <|
    (runs_stps (q' := (40, [.ref 34, .int x1, .int x2, .int x3, .int x4, .int r1], [.int r1, .ref 46], w1)) 3 rfl).trans <|
    (runs_ck (q' := (41, [.ref 34, .int x1, .int x2, .int x3, .int x4, .int r1], [.int (w1.1 46 r1.toNatClampNeg)], w1)) rfl h4).trans <|
    (runs_stps (q' := (43, [.ref 34, .int x1, .int x2, .int x3, .int x4, .int r1], [.int 1000000, .int (w1.1 46 r1.toNatClampNeg)], w1)) 1 rfl).trans <|
    (runs_if_t (a := 81) (b := 46) (L := [.ref 34, .int x1, .int x2, .int x3, .int x4, .int r1]) (st := []) (w := w1) rfl h5).trans <|
    (runs_stps (q' := (10, [.ref 34, .int x1, .int x2, .int x3, .int (x4 + 1), .null], [], w1)) 2 rfl).trans <|
    rfl
theorem p_X9_wayFrom_10FFFT_L10 {ex : Ex} {x1 : Int32} {x2 : Int32} {x3 : Int32} {x4 : Int32} {v5 : Value} {r1 : Int32} {w1 : Wd} {r2 : Int32} {w2 : Wd} {w : Wd} (h1 : ¬ 6 < x4) (h2 : ex 171 [.ref 34, .int x1, .int x4, .int x2] w = some (some (.int r1), w1)) (h3 : ¬ r1 = (-9)) (h4 : vp_in r1 7776) (h5 : ¬ 1000000 ≤ (w1.1 46 r1.toNatClampNeg)) (h6 : vp_in r1 7776) (h7 : ex 172 [.ref 34, .int x1, .int x4] w1 = some (some (.int r2), w2)) (h8 : x3 ≤ ((w1.1 46 r1.toNatClampNeg) + r2)) : runs (T_X9_wayFrom ex) (10, [.ref 34, .int x1, .int x2, .int x3, .int x4, v5], [], w) = runs (T_X9_wayFrom ex) (10, [.ref 34, .int x1, .int x2, .int x3, .int (x4 + 1), .null], [], w2) := 
    (runs_stps (q' := (14, [.ref 34, .int x1, .int x2, .int x3, .int x4, .null], [.int 6, .int x4], w)) 2 rfl).trans <|
    (runs_if_f (a := 87) (b := 17) (L := [.ref 34, .int x1, .int x2, .int x3, .int x4, .null]) (st := []) (w := w) rfl h1).trans <|
    (runs_stps (q' := (22, [.ref 34, .int x1, .int x2, .int x3, .int x4, .null], [.int x2, .int x4, .int x1, .ref 34], w)) 4 rfl).trans <|
    (runs_callV (rv := some (.int r1)) (w' := w1) rfl rfl rfl rfl h2).trans <|
    (runs_stps (q' := (31, [.ref 34, .int x1, .int x2, .int x3, .int x4, .int r1], [.int (-9), .int r1], w1)) 3 rfl).trans <|
    (runs_if_f (a := 81) (b := 34) (L := [.ref 34, .int x1, .int x2, .int x3, .int x4, .int r1]) (st := []) (w := w1) rfl h3).trans <|
    (runs_stps (q' := (40, [.ref 34, .int x1, .int x2, .int x3, .int x4, .int r1], [.int r1, .ref 46], w1)) 3 rfl).trans <|
    (runs_ck (q' := (41, [.ref 34, .int x1, .int x2, .int x3, .int x4, .int r1], [.int (w1.1 46 r1.toNatClampNeg)], w1)) rfl h4).trans <|
    (runs_stps (q' := (43, [.ref 34, .int x1, .int x2, .int x3, .int x4, .int r1], [.int 1000000, .int (w1.1 46 r1.toNatClampNeg)], w1)) 1 rfl).trans <|
    (runs_if_f (a := 81) (b := 46) (L := [.ref 34, .int x1, .int x2, .int x3, .int x4, .int r1]) (st := []) (w := w1) rfl h5).trans <|
    (runs_stps (q' := (52, [.ref 34, .int x1, .int x2, .int x3, .int x4, .int r1], [.int r1, .ref 46], w1)) 3 rfl).trans <|
    (runs_ck (q' := (53, [.ref 34, .int x1, .int x2, .int x3, .int x4, .int r1], [.int (w1.1 46 r1.toNatClampNeg)], w1)) rfl h6).trans <|
    (runs_stps (q' := (57, [.ref 34, .int x1, .int x2, .int x3, .int x4, .int r1], [.int x4, .int x1, .ref 34, .int (w1.1 46 r1.toNatClampNeg)], w1)) 3 rfl).trans <|
    (runs_callV (rv := some (.int r2)) (w' := w2) rfl rfl rfl rfl h7).trans <|
    (runs_stps (q' := (62, [.ref 34, .int x1, .int x2, .int x3, .int x4, .int r1], [.int x3, .int ((w1.1 46 r1.toNatClampNeg) + r2)], w2)) 2 rfl).trans <|
    (runs_if_t (a := 81) (b := 65) (L := [.ref 34, .int x1, .int x2, .int x3, .int x4, .int r1]) (st := []) (w := w2) rfl h8).trans <|
    (runs_stps (q' := (10, [.ref 34, .int x1, .int x2, .int x3, .int (x4 + 1), .null], [], w2)) 2 rfl).trans <|
    rfl
theorem p_X9_wayFrom_10FFFF_L10 {ex : Ex} {x1 : Int32} {x2 : Int32} {x3 : Int32} {x4 : Int32} {v5 : Value} {r1 : Int32} {w1 : Wd} {r2 : Int32} {w2 : Wd} {r3 : Int32} {w3 : Wd} {w : Wd} (h1 : ¬ 6 < x4) (h2 : ex 171 [.ref 34, .int x1, .int x4, .int x2] w = some (some (.int r1), w1)) (h3 : ¬ r1 = (-9)) (h4 : vp_in r1 7776) (h5 : ¬ 1000000 ≤ (w1.1 46 r1.toNatClampNeg)) (h6 : vp_in r1 7776) (h7 : ex 172 [.ref 34, .int x1, .int x4] w1 = some (some (.int r2), w2)) (h8 : ¬ x3 ≤ ((w1.1 46 r1.toNatClampNeg) + r2)) (h9 : vp_in r1 7776) (h10 : ex 172 [.ref 34, .int x1, .int x4] w2 = some (some (.int r3), w3)) : runs (T_X9_wayFrom ex) (10, [.ref 34, .int x1, .int x2, .int x3, .int x4, v5], [], w) = runs (T_X9_wayFrom ex) (10, [.ref 34, .int x1, .int x2, .int ((w2.1 46 r1.toNatClampNeg) + r3), .int (x4 + 1), .null], [], w3) := 
    (runs_stps (q' := (14, [.ref 34, .int x1, .int x2, .int x3, .int x4, .null], [.int 6, .int x4], w)) 2 rfl).trans <|
    (runs_if_f (a := 87) (b := 17) (L := [.ref 34, .int x1, .int x2, .int x3, .int x4, .null]) (st := []) (w := w) rfl h1).trans <|
    (runs_stps (q' := (22, [.ref 34, .int x1, .int x2, .int x3, .int x4, .null], [.int x2, .int x4, .int x1, .ref 34], w)) 4 rfl).trans <|
    (runs_callV (rv := some (.int r1)) (w' := w1) rfl rfl rfl rfl h2).trans <|
    (runs_stps (q' := (31, [.ref 34, .int x1, .int x2, .int x3, .int x4, .int r1], [.int (-9), .int r1], w1)) 3 rfl).trans <|
    (runs_if_f (a := 81) (b := 34) (L := [.ref 34, .int x1, .int x2, .int x3, .int x4, .int r1]) (st := []) (w := w1) rfl h3).trans <|
    (runs_stps (q' := (40, [.ref 34, .int x1, .int x2, .int x3, .int x4, .int r1], [.int r1, .ref 46], w1)) 3 rfl).trans <|
    (runs_ck (q' := (41, [.ref 34, .int x1, .int x2, .int x3, .int x4, .int r1], [.int (w1.1 46 r1.toNatClampNeg)], w1)) rfl h4).trans <|
    (runs_stps (q' := (43, [.ref 34, .int x1, .int x2, .int x3, .int x4, .int r1], [.int 1000000, .int (w1.1 46 r1.toNatClampNeg)], w1)) 1 rfl).trans <|
    (runs_if_f (a := 81) (b := 46) (L := [.ref 34, .int x1, .int x2, .int x3, .int x4, .int r1]) (st := []) (w := w1) rfl h5).trans <|
    (runs_stps (q' := (52, [.ref 34, .int x1, .int x2, .int x3, .int x4, .int r1], [.int r1, .ref 46], w1)) 3 rfl).trans <|
    (runs_ck (q' := (53, [.ref 34, .int x1, .int x2, .int x3, .int x4, .int r1], [.int (w1.1 46 r1.toNatClampNeg)], w1)) rfl h6).trans <|
    (runs_stps (q' := (57, [.ref 34, .int x1, .int x2, .int x3, .int x4, .int r1], [.int x4, .int x1, .ref 34, .int (w1.1 46 r1.toNatClampNeg)], w1)) 3 rfl).trans <|
    (runs_callV (rv := some (.int r2)) (w' := w2) rfl rfl rfl rfl h7).trans <|
    (runs_stps (q' := (62, [.ref 34, .int x1, .int x2, .int x3, .int x4, .int r1], [.int x3, .int ((w1.1 46 r1.toNatClampNeg) + r2)], w2)) 2 rfl).trans <|
    (runs_if_f (a := 81) (b := 65) (L := [.ref 34, .int x1, .int x2, .int x3, .int x4, .int r1]) (st := []) (w := w2) rfl h8).trans <|
    (runs_stps (q' := (71, [.ref 34, .int x1, .int x2, .int x3, .int x4, .int r1], [.int r1, .ref 46], w2)) 3 rfl).trans <|
    (runs_ck (q' := (72, [.ref 34, .int x1, .int x2, .int x3, .int x4, .int r1], [.int (w2.1 46 r1.toNatClampNeg)], w2)) rfl h9).trans <|
    (runs_stps (q' := (76, [.ref 34, .int x1, .int x2, .int x3, .int x4, .int r1], [.int x4, .int x1, .ref 34, .int (w2.1 46 r1.toNatClampNeg)], w2)) 3 rfl).trans <|
    (runs_callV (rv := some (.int r3)) (w' := w3) rfl rfl rfl rfl h10).trans <|
    (runs_stps (q' := (10, [.ref 34, .int x1, .int x2, .int ((w2.1 46 r1.toNatClampNeg) + r3), .int (x4 + 1), .null], [], w3)) 4 rfl).trans <|
    rfl
theorem p_X9_sweeps_0_L2 {ex : Ex} {x1 : Int32} {x2 : Int32} {w : Wd} : runs (T_X9_sweeps ex) (0, [.ref 34, .int x1, .int x2, .null, .null, .null], [], w) = runs (T_X9_sweeps ex) (2, [.ref 34, .int x1, .int x2, .int 0, .null, .null], [], w) := 
    (runs_stps (q' := (2, [.ref 34, .int x1, .int x2, .int 0, .null, .null], [], w)) 2 rfl).trans <|
    rfl
theorem p_X9_sweeps_2T_L47 {ex : Ex} {x1 : Int32} {x2 : Int32} {x3 : Int32} {v4 : Value} {v5 : Value} {w : Wd} (h1 : 7776 ≤ x3) : runs (T_X9_sweeps ex) (2, [.ref 34, .int x1, .int x2, .int x3, v4, v5], [], w) = runs (T_X9_sweeps ex) (47, [.ref 34, .null, .int x2, .int 1, .null, .null], [], w) := 
    (runs_stps (q' := (6, [.ref 34, .int x1, .int x2, .int x3, .null, .null], [.int 7776, .int x3], w)) 2 rfl).trans <|
    (runs_if_t (a := 45) (b := 9) (L := [.ref 34, .int x1, .int x2, .int x3, .null, .null]) (st := []) (w := w) rfl h1).trans <|
    (runs_stps (q' := (47, [.ref 34, .null, .int x2, .int 1, .null, .null], [], w)) 2 rfl).trans <|
    rfl
theorem p_X9_sweeps_2FT_L2 {ex : Ex} {x1 : Int32} {x2 : Int32} {x3 : Int32} {v4 : Value} {v5 : Value} {w : Wd} (h1 : ¬ 7776 ≤ x3) (h2 : vp_in x3 7776) (h3 : (w.1 47 x3.toNatClampNeg) = 0) (h4 : vp_in x3 7776) : runs (T_X9_sweeps ex) (2, [.ref 34, .int x1, .int x2, .int x3, v4, v5], [], w) = runs (T_X9_sweeps ex) (2, [.ref 34, .int x1, .int x2, .int (x3 + 1), .null, .null], [], updI w 46 x3.toNatClampNeg 1000000) := 
    (runs_stps (q' := (6, [.ref 34, .int x1, .int x2, .int x3, .null, .null], [.int 7776, .int x3], w)) 2 rfl).trans <|
    (runs_if_f (a := 45) (b := 9) (L := [.ref 34, .int x1, .int x2, .int x3, .null, .null]) (st := []) (w := w) rfl h1).trans <|
    (runs_stps (q' := (19, [.ref 34, .int x1, .int x2, .int x3, .null, .null], [.int x3, .ref 47, .int x3, .ref 46], w)) 6 rfl).trans <|
    (runs_ck (q' := (20, [.ref 34, .int x1, .int x2, .int x3, .null, .null], [.int (w.1 47 x3.toNatClampNeg), .int x3, .ref 46], w)) rfl h2).trans <|
    (runs_if_t (a := 36) (b := 23) (L := [.ref 34, .int x1, .int x2, .int x3, .null, .null]) (st := [.int x3, .ref 46]) (w := w) rfl h3).trans <|
    (runs_stps (q' := (38, [.ref 34, .int x1, .int x2, .int x3, .null, .null], [.int 1000000, .int x3, .ref 46], w)) 1 rfl).trans <|
    (runs_ck (q' := (39, [.ref 34, .int x1, .int x2, .int x3, .null, .null], [], updI w 46 x3.toNatClampNeg 1000000)) rfl h4).trans <|
    (runs_stps (q' := (2, [.ref 34, .int x1, .int x2, .int (x3 + 1), .null, .null], [], updI w 46 x3.toNatClampNeg 1000000)) 2 rfl).trans <|
    rfl
theorem p_X9_sweeps_2FFT_L2 {ex : Ex} {x1 : Int32} {x2 : Int32} {x3 : Int32} {v4 : Value} {v5 : Value} {r1 : Int32} {w1 : Wd} {w : Wd} (h1 : ¬ 7776 ≤ x3) (h2 : vp_in x3 7776) (h3 : ¬ (w.1 47 x3.toNatClampNeg) = 0) (h4 : ex 156 [.ref 34, .int x3] w = some (some (.int r1), w1)) (h5 : ¬ r1 = x1) (h6 : vp_in x3 7776) : runs (T_X9_sweeps ex) (2, [.ref 34, .int x1, .int x2, .int x3, v4, v5], [], w) = runs (T_X9_sweeps ex) (2, [.ref 34, .int x1, .int x2, .int (x3 + 1), .null, .null], [], updI w1 46 x3.toNatClampNeg 1000000) := 
    (runs_stps (q' := (6, [.ref 34, .int x1, .int x2, .int x3, .null, .null], [.int 7776, .int x3], w)) 2 rfl).trans <|
    (runs_if_f (a := 45) (b := 9) (L := [.ref 34, .int x1, .int x2, .int x3, .null, .null]) (st := []) (w := w) rfl h1).trans <|
    (runs_stps (q' := (19, [.ref 34, .int x1, .int x2, .int x3, .null, .null], [.int x3, .ref 47, .int x3, .ref 46], w)) 6 rfl).trans <|
    (runs_ck (q' := (20, [.ref 34, .int x1, .int x2, .int x3, .null, .null], [.int (w.1 47 x3.toNatClampNeg), .int x3, .ref 46], w)) rfl h2).trans <|
    (runs_if_f (a := 36) (b := 23) (L := [.ref 34, .int x1, .int x2, .int x3, .null, .null]) (st := [.int x3, .ref 46]) (w := w) rfl h3).trans <|
    (runs_stps (q' := (25, [.ref 34, .int x1, .int x2, .int x3, .null, .null], [.int x3, .ref 34, .int x3, .ref 46], w)) 2 rfl).trans <|
    (runs_callV (rv := some (.int r1)) (w' := w1) rfl rfl rfl rfl h4).trans <|
    (runs_stps (q' := (29, [.ref 34, .int x1, .int x2, .int x3, .null, .null], [.int x1, .int r1, .int x3, .ref 46], w1)) 1 rfl).trans <|
    (runs_if_f (a := 32) (b := 36) (L := [.ref 34, .int x1, .int x2, .int x3, .null, .null]) (st := [.int x3, .ref 46]) (w := w1) rfl h5).trans <|
    (runs_stps (q' := (38, [.ref 34, .int x1, .int x2, .int x3, .null, .null], [.int 1000000, .int x3, .ref 46], w1)) 1 rfl).trans <|
    (runs_ck (q' := (39, [.ref 34, .int x1, .int x2, .int x3, .null, .null], [], updI w1 46 x3.toNatClampNeg 1000000)) rfl h6).trans <|
    (runs_stps (q' := (2, [.ref 34, .int x1, .int x2, .int (x3 + 1), .null, .null], [], updI w1 46 x3.toNatClampNeg 1000000)) 2 rfl).trans <|
    rfl
theorem p_X9_sweeps_2FFF_L2 {ex : Ex} {x1 : Int32} {x2 : Int32} {x3 : Int32} {v4 : Value} {v5 : Value} {r1 : Int32} {w1 : Wd} {w : Wd} (h1 : ¬ 7776 ≤ x3) (h2 : vp_in x3 7776) (h3 : ¬ (w.1 47 x3.toNatClampNeg) = 0) (h4 : ex 156 [.ref 34, .int x3] w = some (some (.int r1), w1)) (h5 : r1 = x1) (h6 : vp_in x3 7776) : runs (T_X9_sweeps ex) (2, [.ref 34, .int x1, .int x2, .int x3, v4, v5], [], w) = runs (T_X9_sweeps ex) (2, [.ref 34, .int x1, .int x2, .int (x3 + 1), .null, .null], [], updI w1 46 x3.toNatClampNeg 0) := 
    (runs_stps (q' := (6, [.ref 34, .int x1, .int x2, .int x3, .null, .null], [.int 7776, .int x3], w)) 2 rfl).trans <|
    (runs_if_f (a := 45) (b := 9) (L := [.ref 34, .int x1, .int x2, .int x3, .null, .null]) (st := []) (w := w) rfl h1).trans <|
    (runs_stps (q' := (19, [.ref 34, .int x1, .int x2, .int x3, .null, .null], [.int x3, .ref 47, .int x3, .ref 46], w)) 6 rfl).trans <|
    (runs_ck (q' := (20, [.ref 34, .int x1, .int x2, .int x3, .null, .null], [.int (w.1 47 x3.toNatClampNeg), .int x3, .ref 46], w)) rfl h2).trans <|
    (runs_if_f (a := 36) (b := 23) (L := [.ref 34, .int x1, .int x2, .int x3, .null, .null]) (st := [.int x3, .ref 46]) (w := w) rfl h3).trans <|
    (runs_stps (q' := (25, [.ref 34, .int x1, .int x2, .int x3, .null, .null], [.int x3, .ref 34, .int x3, .ref 46], w)) 2 rfl).trans <|
    (runs_callV (rv := some (.int r1)) (w' := w1) rfl rfl rfl rfl h4).trans <|
    (runs_stps (q' := (29, [.ref 34, .int x1, .int x2, .int x3, .null, .null], [.int x1, .int r1, .int x3, .ref 46], w1)) 1 rfl).trans <|
    (runs_if_t (a := 32) (b := 36) (L := [.ref 34, .int x1, .int x2, .int x3, .null, .null]) (st := [.int x3, .ref 46]) (w := w1) rfl h5).trans <|
    (runs_stps (q' := (38, [.ref 34, .int x1, .int x2, .int x3, .null, .null], [.int 0, .int x3, .ref 46], w1)) 2 rfl).trans <|
    (runs_ck (q' := (39, [.ref 34, .int x1, .int x2, .int x3, .null, .null], [], updI w1 46 x3.toNatClampNeg 0)) rfl h6).trans <|
    (runs_stps (q' := (2, [.ref 34, .int x1, .int x2, .int (x3 + 1), .null, .null], [], updI w1 46 x3.toNatClampNeg 0)) 2 rfl).trans <|
    rfl
theorem p_X9_sweeps_47T_R {ex : Ex} {v1 : Value} {x2 : Int32} {x3 : Int32} {v4 : Value} {v5 : Value} {w : Wd} (h1 : x3 = 0) : runs (T_X9_sweeps ex) (47, [.ref 34, v1, .int x2, .int x3, v4, v5], [], w) = some (none, w) := 
    (runs_stps (q' := (48, [.ref 34, .null, .int x2, .int x3, .null, .null], [.int x3], w)) 1 rfl).trans <|
    (runs_if_t (a := 128) (b := 51) (L := [.ref 34, .null, .int x2, .int x3, .null, .null]) (st := []) (w := w) rfl h1).trans <|
    runs_ret rfl
theorem p_X9_sweeps_47F_L56 {ex : Ex} {v1 : Value} {x2 : Int32} {x3 : Int32} {v4 : Value} {v5 : Value} {w : Wd} (h1 : ¬ x3 = 0) : runs (T_X9_sweeps ex) (47, [.ref 34, v1, .int x2, .int x3, v4, v5], [], w) = runs (T_X9_sweeps ex) (56, [.ref 34, .null, .int x2, .int 0, .int 0, .null], [], w) := 
    (runs_stps (q' := (48, [.ref 34, .null, .int x2, .int x3, .null, .null], [.int x3], w)) 1 rfl).trans <|
    (runs_if_f (a := 128) (b := 51) (L := [.ref 34, .null, .int x2, .int x3, .null, .null]) (st := []) (w := w) rfl h1).trans <|
    (runs_stps (q' := (56, [.ref 34, .null, .int x2, .int 0, .int 0, .null], [], w)) 4 rfl).trans <|
    rfl
theorem p_X9_sweeps_56T_L47 {ex : Ex} {v1 : Value} {x2 : Int32} {x3 : Int32} {x4 : Int32} {v5 : Value} {w : Wd} (h1 : 7776 ≤ x4) : runs (T_X9_sweeps ex) (56, [.ref 34, v1, .int x2, .int x3, .int x4, v5], [], w) = runs (T_X9_sweeps ex) (47, [.ref 34, .null, .int x2, .int x3, .null, .null], [], w) := 
    (runs_stps (q' := (61, [.ref 34, .null, .int x2, .int x3, .int x4, .null], [.int 7776, .int x4], w)) 2 rfl).trans <|
    (runs_if_t (a := 125) (b := 64) (L := [.ref 34, .null, .int x2, .int x3, .int x4, .null]) (st := []) (w := w) rfl h1).trans <|
    (runs_stps (q' := (47, [.ref 34, .null, .int x2, .int x3, .null, .null], [], w)) 1 rfl).trans <|
    rfl
theorem p_X9_sweeps_56FTT_L56 {ex : Ex} {v1 : Value} {x2 : Int32} {x3 : Int32} {x4 : Int32} {v5 : Value} {w : Wd} (h1 : ¬ 7776 ≤ x4) (h2 : vp_in x4 7776) (h3 : (w.1 47 x4.toNatClampNeg) = 0) (h4 : ¬ x3 = 0) (h5 : vp_in x4 7776) : runs (T_X9_sweeps ex) (56, [.ref 34, v1, .int x2, .int x3, .int x4, v5], [], w) = runs (T_X9_sweeps ex) (56, [.ref 34, .null, .int x2, .int 1, .int (x4 + 1), .int 1000000], [], updI w 46 x4.toNatClampNeg 1000000) := 
    (runs_stps (q' := (61, [.ref 34, .null, .int x2, .int x3, .int x4, .null], [.int 7776, .int x4], w)) 2 rfl).trans <|
    (runs_if_f (a := 125) (b := 64) (L := [.ref 34, .null, .int x2, .int x3, .int x4, .null]) (st := []) (w := w) rfl h1).trans <|
    (runs_stps (q' := (70, [.ref 34, .null, .int x2, .int x3, .int x4, .null], [.int x4, .ref 47], w)) 3 rfl).trans <|
    (runs_ck (q' := (71, [.ref 34, .null, .int x2, .int x3, .int x4, .null], [.int (w.1 47 x4.toNatClampNeg)], w)) rfl h2).trans <|
    (runs_if_t (a := 84) (b := 74) (L := [.ref 34, .null, .int x2, .int x3, .int x4, .null]) (st := []) (w := w) rfl h3).trans <|
    (runs_stps (q' := (89, [.ref 34, .null, .int x2, .int x3, .int x4, .int 1000000], [.int x3], w)) 3 rfl).trans <|
    (runs_if_f (a := 92) (b := 104) (L := [.ref 34, .null, .int x2, .int x3, .int x4, .int 1000000]) (st := []) (w := w) rfl h4).trans <|
    (runs_stps (q' := (118, [.ref 34, .null, .int x2, .int 1, .int x4, .int 1000000], [.int 1000000, .int x4, .ref 46], w)) 7 rfl).trans <|
    (runs_ck (q' := (119, [.ref 34, .null, .int x2, .int 1, .int x4, .int 1000000], [], updI w 46 x4.toNatClampNeg 1000000)) rfl h5).trans <|
    (runs_stps (q' := (56, [.ref 34, .null, .int x2, .int 1, .int (x4 + 1), .int 1000000], [], updI w 46 x4.toNatClampNeg 1000000)) 2 rfl).trans <|
    rfl
theorem p_X9_sweeps_56FTFT_L56 {ex : Ex} {v1 : Value} {x2 : Int32} {x3 : Int32} {x4 : Int32} {v5 : Value} {w : Wd} (h1 : ¬ 7776 ≤ x4) (h2 : vp_in x4 7776) (h3 : (w.1 47 x4.toNatClampNeg) = 0) (h4 : x3 = 0) (h5 : vp_in x4 7776) (h6 : (w.1 46 x4.toNatClampNeg) ≤ 1000000) (h7 : vp_in x4 7776) : runs (T_X9_sweeps ex) (56, [.ref 34, v1, .int x2, .int x3, .int x4, v5], [], w) = runs (T_X9_sweeps ex) (56, [.ref 34, .null, .int x2, .int 0, .int (x4 + 1), .int 1000000], [], updI w 46 x4.toNatClampNeg 1000000) := 
    (runs_stps (q' := (61, [.ref 34, .null, .int x2, .int x3, .int x4, .null], [.int 7776, .int x4], w)) 2 rfl).trans <|
    (runs_if_f (a := 125) (b := 64) (L := [.ref 34, .null, .int x2, .int x3, .int x4, .null]) (st := []) (w := w) rfl h1).trans <|
    (runs_stps (q' := (70, [.ref 34, .null, .int x2, .int x3, .int x4, .null], [.int x4, .ref 47], w)) 3 rfl).trans <|
    (runs_ck (q' := (71, [.ref 34, .null, .int x2, .int x3, .int x4, .null], [.int (w.1 47 x4.toNatClampNeg)], w)) rfl h2).trans <|
    (runs_if_t (a := 84) (b := 74) (L := [.ref 34, .null, .int x2, .int x3, .int x4, .null]) (st := []) (w := w) rfl h3).trans <|
    (runs_stps (q' := (89, [.ref 34, .null, .int x2, .int x3, .int x4, .int 1000000], [.int x3], w)) 3 rfl).trans <|
    (runs_if_t (a := 92) (b := 104) (L := [.ref 34, .null, .int x2, .int x3, .int x4, .int 1000000]) (st := []) (w := w) rfl h4).trans <|
    (runs_stps (q' := (100, [.ref 34, .null, .int x2, .int x3, .int x4, .int 1000000], [.int x4, .ref 46, .int 1000000], w)) 4 rfl).trans <|
    (runs_ck (q' := (101, [.ref 34, .null, .int x2, .int x3, .int x4, .int 1000000], [.int (w.1 46 x4.toNatClampNeg), .int 1000000], w)) rfl h5).trans <|
    (runs_if_t (a := 108) (b := 104) (L := [.ref 34, .null, .int x2, .int x3, .int x4, .int 1000000]) (st := []) (w := w) rfl h6).trans <|
    (runs_stps (q' := (118, [.ref 34, .null, .int x2, .int 0, .int x4, .int 1000000], [.int 1000000, .int x4, .ref 46], w)) 6 rfl).trans <|
    (runs_ck (q' := (119, [.ref 34, .null, .int x2, .int 0, .int x4, .int 1000000], [], updI w 46 x4.toNatClampNeg 1000000)) rfl h7).trans <|
    (runs_stps (q' := (56, [.ref 34, .null, .int x2, .int 0, .int (x4 + 1), .int 1000000], [], updI w 46 x4.toNatClampNeg 1000000)) 2 rfl).trans <|
    rfl
theorem p_X9_sweeps_56FTFF_L56 {ex : Ex} {v1 : Value} {x2 : Int32} {x3 : Int32} {x4 : Int32} {v5 : Value} {w : Wd} (h1 : ¬ 7776 ≤ x4) (h2 : vp_in x4 7776) (h3 : (w.1 47 x4.toNatClampNeg) = 0) (h4 : x3 = 0) (h5 : vp_in x4 7776) (h6 : ¬ (w.1 46 x4.toNatClampNeg) ≤ 1000000) (h7 : vp_in x4 7776) : runs (T_X9_sweeps ex) (56, [.ref 34, v1, .int x2, .int x3, .int x4, v5], [], w) = runs (T_X9_sweeps ex) (56, [.ref 34, .null, .int x2, .int 1, .int (x4 + 1), .int 1000000], [], updI w 46 x4.toNatClampNeg 1000000) := 
    (runs_stps (q' := (61, [.ref 34, .null, .int x2, .int x3, .int x4, .null], [.int 7776, .int x4], w)) 2 rfl).trans <|
    (runs_if_f (a := 125) (b := 64) (L := [.ref 34, .null, .int x2, .int x3, .int x4, .null]) (st := []) (w := w) rfl h1).trans <|
    (runs_stps (q' := (70, [.ref 34, .null, .int x2, .int x3, .int x4, .null], [.int x4, .ref 47], w)) 3 rfl).trans <|
    (runs_ck (q' := (71, [.ref 34, .null, .int x2, .int x3, .int x4, .null], [.int (w.1 47 x4.toNatClampNeg)], w)) rfl h2).trans <|
    (runs_if_t (a := 84) (b := 74) (L := [.ref 34, .null, .int x2, .int x3, .int x4, .null]) (st := []) (w := w) rfl h3).trans <|
    (runs_stps (q' := (89, [.ref 34, .null, .int x2, .int x3, .int x4, .int 1000000], [.int x3], w)) 3 rfl).trans <|
    (runs_if_t (a := 92) (b := 104) (L := [.ref 34, .null, .int x2, .int x3, .int x4, .int 1000000]) (st := []) (w := w) rfl h4).trans <|
    (runs_stps (q' := (100, [.ref 34, .null, .int x2, .int x3, .int x4, .int 1000000], [.int x4, .ref 46, .int 1000000], w)) 4 rfl).trans <|
    (runs_ck (q' := (101, [.ref 34, .null, .int x2, .int x3, .int x4, .int 1000000], [.int (w.1 46 x4.toNatClampNeg), .int 1000000], w)) rfl h5).trans <|
    (runs_if_f (a := 108) (b := 104) (L := [.ref 34, .null, .int x2, .int x3, .int x4, .int 1000000]) (st := []) (w := w) rfl h6).trans <|
    (runs_stps (q' := (118, [.ref 34, .null, .int x2, .int 1, .int x4, .int 1000000], [.int 1000000, .int x4, .ref 46], w)) 7 rfl).trans <|
    (runs_ck (q' := (119, [.ref 34, .null, .int x2, .int 1, .int x4, .int 1000000], [], updI w 46 x4.toNatClampNeg 1000000)) rfl h7).trans <|
    (runs_stps (q' := (56, [.ref 34, .null, .int x2, .int 1, .int (x4 + 1), .int 1000000], [], updI w 46 x4.toNatClampNeg 1000000)) 2 rfl).trans <|
    rfl
theorem p_X9_sweeps_56FFT_L56 {ex : Ex} {v1 : Value} {x2 : Int32} {x3 : Int32} {x4 : Int32} {v5 : Value} {r1 : Int32} {w1 : Wd} {w : Wd} (h1 : ¬ 7776 ≤ x4) (h2 : vp_in x4 7776) (h3 : ¬ (w.1 47 x4.toNatClampNeg) = 0) (h4 : ex 174 [.ref 34, .int x4, .int x2] w = some (some (.int r1), w1)) (h5 : ¬ x3 = 0) (h6 : vp_in x4 7776) : runs (T_X9_sweeps ex) (56, [.ref 34, v1, .int x2, .int x3, .int x4, v5], [], w) = runs (T_X9_sweeps ex) (56, [.ref 34, .null, .int x2, .int 1, .int (x4 + 1), .int r1], [], updI w1 46 x4.toNatClampNeg r1) := 
    (runs_stps (q' := (61, [.ref 34, .null, .int x2, .int x3, .int x4, .null], [.int 7776, .int x4], w)) 2 rfl).trans <|
    (runs_if_f (a := 125) (b := 64) (L := [.ref 34, .null, .int x2, .int x3, .int x4, .null]) (st := []) (w := w) rfl h1).trans <|
    (runs_stps (q' := (70, [.ref 34, .null, .int x2, .int x3, .int x4, .null], [.int x4, .ref 47], w)) 3 rfl).trans <|
    (runs_ck (q' := (71, [.ref 34, .null, .int x2, .int x3, .int x4, .null], [.int (w.1 47 x4.toNatClampNeg)], w)) rfl h2).trans <|
    (runs_if_f (a := 84) (b := 74) (L := [.ref 34, .null, .int x2, .int x3, .int x4, .null]) (st := []) (w := w) rfl h3).trans <|
    (runs_stps (q' := (78, [.ref 34, .null, .int x2, .int x3, .int x4, .null], [.int x2, .int x4, .ref 34], w)) 3 rfl).trans <|
    (runs_callV (rv := some (.int r1)) (w' := w1) rfl rfl rfl rfl h4).trans <|
    (runs_stps (q' := (89, [.ref 34, .null, .int x2, .int x3, .int x4, .int r1], [.int x3], w1)) 3 rfl).trans <|
    (runs_if_f (a := 92) (b := 104) (L := [.ref 34, .null, .int x2, .int x3, .int x4, .int r1]) (st := []) (w := w1) rfl h5).trans <|
    (runs_stps (q' := (118, [.ref 34, .null, .int x2, .int 1, .int x4, .int r1], [.int r1, .int x4, .ref 46], w1)) 7 rfl).trans <|
    (runs_ck (q' := (119, [.ref 34, .null, .int x2, .int 1, .int x4, .int r1], [], updI w1 46 x4.toNatClampNeg r1)) rfl h6).trans <|
    (runs_stps (q' := (56, [.ref 34, .null, .int x2, .int 1, .int (x4 + 1), .int r1], [], updI w1 46 x4.toNatClampNeg r1)) 2 rfl).trans <|
    rfl
theorem p_X9_sweeps_56FFFT_L56 {ex : Ex} {v1 : Value} {x2 : Int32} {x3 : Int32} {x4 : Int32} {v5 : Value} {r1 : Int32} {w1 : Wd} {w : Wd} (h1 : ¬ 7776 ≤ x4) (h2 : vp_in x4 7776) (h3 : ¬ (w.1 47 x4.toNatClampNeg) = 0) (h4 : ex 174 [.ref 34, .int x4, .int x2] w = some (some (.int r1), w1)) (h5 : x3 = 0) (h6 : vp_in x4 7776) (h7 : (w1.1 46 x4.toNatClampNeg) ≤ r1) (h8 : vp_in x4 7776) : runs (T_X9_sweeps ex) (56, [.ref 34, v1, .int x2, .int x3, .int x4, v5], [], w) = runs (T_X9_sweeps ex) (56, [.ref 34, .null, .int x2, .int 0, .int (x4 + 1), .int r1], [], updI w1 46 x4.toNatClampNeg r1) := 
    (runs_stps (q' := (61, [.ref 34, .null, .int x2, .int x3, .int x4, .null], [.int 7776, .int x4], w)) 2 rfl).trans <|
    (runs_if_f (a := 125) (b := 64) (L := [.ref 34, .null, .int x2, .int x3, .int x4, .null]) (st := []) (w := w) rfl h1).trans <|
    (runs_stps (q' := (70, [.ref 34, .null, .int x2, .int x3, .int x4, .null], [.int x4, .ref 47], w)) 3 rfl).trans <|
    (runs_ck (q' := (71, [.ref 34, .null, .int x2, .int x3, .int x4, .null], [.int (w.1 47 x4.toNatClampNeg)], w)) rfl h2).trans <|
    (runs_if_f (a := 84) (b := 74) (L := [.ref 34, .null, .int x2, .int x3, .int x4, .null]) (st := []) (w := w) rfl h3).trans <|
    (runs_stps (q' := (78, [.ref 34, .null, .int x2, .int x3, .int x4, .null], [.int x2, .int x4, .ref 34], w)) 3 rfl).trans <|
    (runs_callV (rv := some (.int r1)) (w' := w1) rfl rfl rfl rfl h4).trans <|
    (runs_stps (q' := (89, [.ref 34, .null, .int x2, .int x3, .int x4, .int r1], [.int x3], w1)) 3 rfl).trans <|
    (runs_if_t (a := 92) (b := 104) (L := [.ref 34, .null, .int x2, .int x3, .int x4, .int r1]) (st := []) (w := w1) rfl h5).trans <|
    (runs_stps (q' := (100, [.ref 34, .null, .int x2, .int x3, .int x4, .int r1], [.int x4, .ref 46, .int r1], w1)) 4 rfl).trans <|
    (runs_ck (q' := (101, [.ref 34, .null, .int x2, .int x3, .int x4, .int r1], [.int (w1.1 46 x4.toNatClampNeg), .int r1], w1)) rfl h6).trans <|
    (runs_if_t (a := 108) (b := 104) (L := [.ref 34, .null, .int x2, .int x3, .int x4, .int r1]) (st := []) (w := w1) rfl h7).trans <|
    (runs_stps (q' := (118, [.ref 34, .null, .int x2, .int 0, .int x4, .int r1], [.int r1, .int x4, .ref 46], w1)) 6 rfl).trans <|
    (runs_ck (q' := (119, [.ref 34, .null, .int x2, .int 0, .int x4, .int r1], [], updI w1 46 x4.toNatClampNeg r1)) rfl h8).trans <|
    (runs_stps (q' := (56, [.ref 34, .null, .int x2, .int 0, .int (x4 + 1), .int r1], [], updI w1 46 x4.toNatClampNeg r1)) 2 rfl).trans <|
    rfl
theorem p_X9_sweeps_56FFFF_L56 {ex : Ex} {v1 : Value} {x2 : Int32} {x3 : Int32} {x4 : Int32} {v5 : Value} {r1 : Int32} {w1 : Wd} {w : Wd} (h1 : ¬ 7776 ≤ x4) (h2 : vp_in x4 7776) (h3 : ¬ (w.1 47 x4.toNatClampNeg) = 0) (h4 : ex 174 [.ref 34, .int x4, .int x2] w = some (some (.int r1), w1)) (h5 : x3 = 0) (h6 : vp_in x4 7776) (h7 : ¬ (w1.1 46 x4.toNatClampNeg) ≤ r1) (h8 : vp_in x4 7776) : runs (T_X9_sweeps ex) (56, [.ref 34, v1, .int x2, .int x3, .int x4, v5], [], w) = runs (T_X9_sweeps ex) (56, [.ref 34, .null, .int x2, .int 1, .int (x4 + 1), .int r1], [], updI w1 46 x4.toNatClampNeg r1) := 
    (runs_stps (q' := (61, [.ref 34, .null, .int x2, .int x3, .int x4, .null], [.int 7776, .int x4], w)) 2 rfl).trans <|
    (runs_if_f (a := 125) (b := 64) (L := [.ref 34, .null, .int x2, .int x3, .int x4, .null]) (st := []) (w := w) rfl h1).trans <|
    (runs_stps (q' := (70, [.ref 34, .null, .int x2, .int x3, .int x4, .null], [.int x4, .ref 47], w)) 3 rfl).trans <|
    (runs_ck (q' := (71, [.ref 34, .null, .int x2, .int x3, .int x4, .null], [.int (w.1 47 x4.toNatClampNeg)], w)) rfl h2).trans <|
    (runs_if_f (a := 84) (b := 74) (L := [.ref 34, .null, .int x2, .int x3, .int x4, .null]) (st := []) (w := w) rfl h3).trans <|
    (runs_stps (q' := (78, [.ref 34, .null, .int x2, .int x3, .int x4, .null], [.int x2, .int x4, .ref 34], w)) 3 rfl).trans <|
    (runs_callV (rv := some (.int r1)) (w' := w1) rfl rfl rfl rfl h4).trans <|
    (runs_stps (q' := (89, [.ref 34, .null, .int x2, .int x3, .int x4, .int r1], [.int x3], w1)) 3 rfl).trans <|
    (runs_if_t (a := 92) (b := 104) (L := [.ref 34, .null, .int x2, .int x3, .int x4, .int r1]) (st := []) (w := w1) rfl h5).trans <|
    (runs_stps (q' := (100, [.ref 34, .null, .int x2, .int x3, .int x4, .int r1], [.int x4, .ref 46, .int r1], w1)) 4 rfl).trans <|
    (runs_ck (q' := (101, [.ref 34, .null, .int x2, .int x3, .int x4, .int r1], [.int (w1.1 46 x4.toNatClampNeg), .int r1], w1)) rfl h6).trans <|
    (runs_if_f (a := 108) (b := 104) (L := [.ref 34, .null, .int x2, .int x3, .int x4, .int r1]) (st := []) (w := w1) rfl h7).trans <|
    (runs_stps (q' := (118, [.ref 34, .null, .int x2, .int 1, .int x4, .int r1], [.int r1, .int x4, .ref 46], w1)) 7 rfl).trans <|
    (runs_ck (q' := (119, [.ref 34, .null, .int x2, .int 1, .int x4, .int r1], [], updI w1 46 x4.toNatClampNeg r1)) rfl h8).trans <|
    (runs_stps (q' := (56, [.ref 34, .null, .int x2, .int 1, .int (x4 + 1), .int r1], [], updI w1 46 x4.toNatClampNeg r1)) 2 rfl).trans <|
    rfl
theorem p_X9_cheapest_0T_R {ex : Ex} {x1 : Int32} {x2 : Int32} {x3 : Int32} {x4 : Int32} {r1 : Int32} {w1 : Wd} {w : Wd} (h1 : ex 152 [.ref 34, .int x1] (updI w 34 0 0) = some (some (.int r1), w1)) (h2 : r1 = 0) : runs (T_X9_cheapest ex) (0, [.ref 34, .int x1, .int x2, .int x3, .int x4, .null, .null, .null], [], w) = some (some (.int (-1)), w1) := 
    (runs_stps (q' := (7, [.ref 34, .int x1, .int x2, .int x3, .int x4, .null, .null, .null], [.int x1, .ref 34], updI w 34 0 0)) 5 rfl).trans <|
    (runs_callV (rv := some (.int r1)) (w' := w1) rfl rfl rfl rfl h1).trans <|
    (runs_if_t (a := 50) (b := 13) (L := [.ref 34, .int x1, .int x2, .int x3, .int x4, .null, .null, .null]) (st := []) (w := w1) rfl h2).trans <|
    (runs_stps (q' := (51, [.null, .null, .null, .null, .null, .null, .null, .null], [.int (-1)], w1)) 1 rfl).trans <|
    runs_ret rfl
theorem p_X9_cheapest_0FT_R {ex : Ex} {x1 : Int32} {x2 : Int32} {x3 : Int32} {x4 : Int32} {r1 : Int32} {w1 : Wd} {r2 : Int32} {w2 : Wd} {w : Wd} (h1 : ex 152 [.ref 34, .int x1] (updI w 34 0 0) = some (some (.int r1), w1)) (h2 : ¬ r1 = 0) (h3 : ex 135 [.int x2, .int 0, .int 1023] w1 = some (some (.int r2), w2)) (h4 : r2 = 0) : runs (T_X9_cheapest ex) (0, [.ref 34, .int x1, .int x2, .int x3, .int x4, .null, .null, .null], [], w) = some (some (.int (-1)), w2) := 
    (runs_stps (q' := (7, [.ref 34, .int x1, .int x2, .int x3, .int x4, .null, .null, .null], [.int x1, .ref 34], updI w 34 0 0)) 5 rfl).trans <|
    (runs_callV (rv := some (.int r1)) (w' := w1) rfl rfl rfl rfl h1).trans <|
    (runs_if_f (a := 50) (b := 13) (L := [.ref 34, .int x1, .int x2, .int x3, .int x4, .null, .null, .null]) (st := []) (w := w1) rfl h2).trans <|
    (runs_stps (q' := (18, [.ref 34, .int x1, .int x2, .int x3, .int x4, .null, .null, .null], [.int 1023, .int 0, .int x2], w1)) 3 rfl).trans <|
    (runs_callS (rv := some (.int r2)) (w' := w2) rfl rfl rfl h3).trans <|
    (runs_if_t (a := 50) (b := 24) (L := [.ref 34, .int x1, .int x2, .int x3, .int x4, .null, .null, .null]) (st := []) (w := w2) rfl h4).trans <|
    (runs_stps (q' := (51, [.null, .null, .null, .null, .null, .null, .null, .null], [.int (-1)], w2)) 1 rfl).trans <|
    runs_ret rfl
theorem p_X9_cheapest_0FFT_R {ex : Ex} {x1 : Int32} {x2 : Int32} {x3 : Int32} {x4 : Int32} {r1 : Int32} {w1 : Wd} {r2 : Int32} {w2 : Wd} {r3 : Int32} {w3 : Wd} {w : Wd} (h1 : ex 152 [.ref 34, .int x1] (updI w 34 0 0) = some (some (.int r1), w1)) (h2 : ¬ r1 = 0) (h3 : ex 135 [.int x2, .int 0, .int 1023] w1 = some (some (.int r2), w2)) (h4 : ¬ r2 = 0) (h5 : ex 135 [.int x3, .int 0, .int ((1 <<< ((w2.1 34 15) &&& 31)) - 1)] w2 = some (some (.int r3), w3)) (h6 : r3 = 0) : runs (T_X9_cheapest ex) (0, [.ref 34, .int x1, .int x2, .int x3, .int x4, .null, .null, .null], [], w) = some (some (.int (-1)), w3) := 
    (runs_stps (q' := (7, [.ref 34, .int x1, .int x2, .int x3, .int x4, .null, .null, .null], [.int x1, .ref 34], updI w 34 0 0)) 5 rfl).trans <|
    (runs_callV (rv := some (.int r1)) (w' := w1) rfl rfl rfl rfl h1).trans <|
    (runs_if_f (a := 50) (b := 13) (L := [.ref 34, .int x1, .int x2, .int x3, .int x4, .null, .null, .null]) (st := []) (w := w1) rfl h2).trans <|
    (runs_stps (q' := (18, [.ref 34, .int x1, .int x2, .int x3, .int x4, .null, .null, .null], [.int 1023, .int 0, .int x2], w1)) 3 rfl).trans <|
    (runs_callS (rv := some (.int r2)) (w' := w2) rfl rfl rfl h3).trans <|
    (runs_if_f (a := 50) (b := 24) (L := [.ref 34, .int x1, .int x2, .int x3, .int x4, .null, .null, .null]) (st := []) (w := w2) rfl h4).trans <|
    (runs_stps (q' := (34, [.ref 34, .int x1, .int x2, .int x3, .int x4, .null, .null, .null], [.int ((1 <<< ((w2.1 34 15) &&& 31)) - 1), .int 0, .int x3], w2)) 8 rfl).trans <|
    (runs_callS (rv := some (.int r3)) (w' := w3) rfl rfl rfl h5).trans <|
    (runs_if_t (a := 50) (b := 40) (L := [.ref 34, .int x1, .int x2, .int x3, .int x4, .null, .null, .null]) (st := []) (w := w3) rfl h6).trans <|
    (runs_stps (q' := (51, [.null, .null, .null, .null, .null, .null, .null, .null], [.int (-1)], w3)) 1 rfl).trans <|
    runs_ret rfl
theorem p_X9_cheapest_0FFFTTT_L96 {ex : Ex} {x1 : Int32} {x2 : Int32} {x3 : Int32} {x4 : Int32} {r1 : Int32} {w1 : Wd} {r2 : Int32} {w2 : Wd} {r3 : Int32} {w3 : Wd} {r4 : Int32} {w4 : Wd} {w5 : Wd} {w : Wd} (h1 : ex 152 [.ref 34, .int x1] (updI w 34 0 0) = some (some (.int r1), w1)) (h2 : ¬ r1 = 0) (h3 : ex 135 [.int x2, .int 0, .int 1023] w1 = some (some (.int r2), w2)) (h4 : ¬ r2 = 0) (h5 : ex 135 [.int x3, .int 0, .int ((1 <<< ((w2.1 34 15) &&& 31)) - 1)] w2 = some (some (.int r3), w3)) (h6 : ¬ r3 = 0) (h7 : ex 135 [.int x4, .int 0, .int 1] w3 = some (some (.int r4), w4)) (h8 : ¬ r4 = 0) (h9 : ex 175 [.ref 34, .int x2, .int x3] w4 = some (none, w5)) (h10 : vp_in x1 5) (h11 : vp_in (w5.1 40 x1.toNatClampNeg) 7776) (h12 : ¬ (w5.1 46 ((w5.1 40 x1.toNatClampNeg).toNatClampNeg)) = 1000000) (h13 : ¬ x4 = 0) : runs (T_X9_cheapest ex) (0, [.ref 34, .int x1, .int x2, .int x3, .int x4, .null, .null, .null], [], w) = runs (T_X9_cheapest ex) (96, [.ref 34, .int x1, .null, .int x3, .null, .int (w5.1 46 ((w5.1 40 x1.toNatClampNeg).toNatClampNeg)), .int 0, .null], [], w5) := 
    (runs_stps (q' := (7, [.ref 34, .int x1, .int x2, .int x3, .int x4, .null, .null, .null], [.int x1, .ref 34], updI w 34 0 0)) 5 rfl).trans <|
    (runs_callV (rv := some (.int r1)) (w' := w1) rfl rfl rfl rfl h1).trans <|
    (runs_if_f (a := 50) (b := 13) (L := [.ref 34, .int x1, .int x2, .int x3, .int x4, .null, .null, .null]) (st := []) (w := w1) rfl h2).trans <|
    (runs_stps (q' := (18, [.ref 34, .int x1, .int x2, .int x3, .int x4, .null, .null, .null], [.int 1023, .int 0, .int x2], w1)) 3 rfl).trans <|
    (runs_callS (rv := some (.int r2)) (w' := w2) rfl rfl rfl h3).trans <|
    (runs_if_f (a := 50) (b := 24) (L := [.ref 34, .int x1, .int x2, .int x3, .int x4, .null, .null, .null]) (st := []) (w := w2) rfl h4).trans <|
    (runs_stps (q' := (34, [.ref 34, .int x1, .int x2, .int x3, .int x4, .null, .null, .null], [.int ((1 <<< ((w2.1 34 15) &&& 31)) - 1), .int 0, .int x3], w2)) 8 rfl).trans <|
    (runs_callS (rv := some (.int r3)) (w' := w3) rfl rfl rfl h5).trans <|
    (runs_if_f (a := 50) (b := 40) (L := [.ref 34, .int x1, .int x2, .int x3, .int x4, .null, .null, .null]) (st := []) (w := w3) rfl h6).trans <|
    (runs_stps (q' := (44, [.ref 34, .int x1, .int x2, .int x3, .int x4, .null, .null, .null], [.int 1, .int 0, .int x4], w3)) 3 rfl).trans <|
    (runs_callS (rv := some (.int r4)) (w' := w4) rfl rfl rfl h7).trans <|
    (runs_if_f (a := 50) (b := 52) (L := [.ref 34, .int x1, .int x2, .int x3, .int x4, .null, .null, .null]) (st := []) (w := w4) rfl h8).trans <|
    (runs_stps (q' := (55, [.ref 34, .int x1, .int x2, .int x3, .int x4, .null, .null, .null], [.int x3, .int x2, .ref 34], w4)) 3 rfl).trans <|
    (runs_callV (rv := none) (w' := w5) rfl rfl rfl rfl h9).trans <|
    (runs_stps (q' := (67, [.ref 34, .int x1, .int x2, .int x3, .int x4, .null, .null, .null], [.int x1, .ref 40, .ref 46], w5)) 5 rfl).trans <|
    (runs_ck (q' := (68, [.ref 34, .int x1, .int x2, .int x3, .int x4, .null, .null, .null], [.int (w5.1 40 x1.toNatClampNeg), .ref 46], w5)) rfl h10).trans <|
    (runs_ck (q' := (69, [.ref 34, .int x1, .int x2, .int x3, .int x4, .null, .null, .null], [.int (w5.1 46 ((w5.1 40 x1.toNatClampNeg).toNatClampNeg))], w5)) rfl h11).trans <|
    (runs_stps (q' := (75, [.ref 34, .int x1, .int x2, .int x3, .int x4, .int (w5.1 46 ((w5.1 40 x1.toNatClampNeg).toNatClampNeg)), .null, .null], [.int 1000000, .int (w5.1 46 ((w5.1 40 x1.toNatClampNeg).toNatClampNeg))], w5)) 3 rfl).trans <|
    (runs_if_f (a := 78) (b := 81) (L := [.ref 34, .int x1, .int x2, .int x3, .int x4, .int (w5.1 46 ((w5.1 40 x1.toNatClampNeg).toNatClampNeg)), .null, .null]) (st := []) (w := w5) rfl h12).trans <|
    (runs_stps (q' := (83, [.ref 34, .int x1, .null, .int x3, .int x4, .int (w5.1 46 ((w5.1 40 x1.toNatClampNeg).toNatClampNeg)), .null, .null], [.int x4], w5)) 1 rfl).trans <|
    (runs_if_f (a := 86) (b := 93) (L := [.ref 34, .int x1, .null, .int x3, .int x4, .int (w5.1 46 ((w5.1 40 x1.toNatClampNeg).toNatClampNeg)), .null, .null]) (st := []) (w := w5) rfl h13).trans <|
    (runs_stps (q' := (96, [.ref 34, .int x1, .null, .int x3, .null, .int (w5.1 46 ((w5.1 40 x1.toNatClampNeg).toNatClampNeg)), .int 0, .null], [], w5)) 2 rfl).trans <|
    rfl
theorem p_X9_cheapest_0FFFTTF_R {ex : Ex} {x1 : Int32} {x2 : Int32} {x3 : Int32} {x4 : Int32} {r1 : Int32} {w1 : Wd} {r2 : Int32} {w2 : Wd} {r3 : Int32} {w3 : Wd} {r4 : Int32} {w4 : Wd} {w5 : Wd} {w : Wd} (h1 : ex 152 [.ref 34, .int x1] (updI w 34 0 0) = some (some (.int r1), w1)) (h2 : ¬ r1 = 0) (h3 : ex 135 [.int x2, .int 0, .int 1023] w1 = some (some (.int r2), w2)) (h4 : ¬ r2 = 0) (h5 : ex 135 [.int x3, .int 0, .int ((1 <<< ((w2.1 34 15) &&& 31)) - 1)] w2 = some (some (.int r3), w3)) (h6 : ¬ r3 = 0) (h7 : ex 135 [.int x4, .int 0, .int 1] w3 = some (some (.int r4), w4)) (h8 : ¬ r4 = 0) (h9 : ex 175 [.ref 34, .int x2, .int x3] w4 = some (none, w5)) (h10 : vp_in x1 5) (h11 : vp_in (w5.1 40 x1.toNatClampNeg) 7776) (h12 : ¬ (w5.1 46 ((w5.1 40 x1.toNatClampNeg).toNatClampNeg)) = 1000000) (h13 : x4 = 0) : runs (T_X9_cheapest ex) (0, [.ref 34, .int x1, .int x2, .int x3, .int x4, .null, .null, .null], [], w) = some (some (.int ((w5.1 46 ((w5.1 40 x1.toNatClampNeg).toNatClampNeg)) / 1000)), w5) := 
    (runs_stps (q' := (7, [.ref 34, .int x1, .int x2, .int x3, .int x4, .null, .null, .null], [.int x1, .ref 34], updI w 34 0 0)) 5 rfl).trans <|
    (runs_callV (rv := some (.int r1)) (w' := w1) rfl rfl rfl rfl h1).trans <|
    (runs_if_f (a := 50) (b := 13) (L := [.ref 34, .int x1, .int x2, .int x3, .int x4, .null, .null, .null]) (st := []) (w := w1) rfl h2).trans <|
    (runs_stps (q' := (18, [.ref 34, .int x1, .int x2, .int x3, .int x4, .null, .null, .null], [.int 1023, .int 0, .int x2], w1)) 3 rfl).trans <|
    (runs_callS (rv := some (.int r2)) (w' := w2) rfl rfl rfl h3).trans <|
    (runs_if_f (a := 50) (b := 24) (L := [.ref 34, .int x1, .int x2, .int x3, .int x4, .null, .null, .null]) (st := []) (w := w2) rfl h4).trans <|
    (runs_stps (q' := (34, [.ref 34, .int x1, .int x2, .int x3, .int x4, .null, .null, .null], [.int ((1 <<< ((w2.1 34 15) &&& 31)) - 1), .int 0, .int x3], w2)) 8 rfl).trans <|
    (runs_callS (rv := some (.int r3)) (w' := w3) rfl rfl rfl h5).trans <|
    (runs_if_f (a := 50) (b := 40) (L := [.ref 34, .int x1, .int x2, .int x3, .int x4, .null, .null, .null]) (st := []) (w := w3) rfl h6).trans <|
    (runs_stps (q' := (44, [.ref 34, .int x1, .int x2, .int x3, .int x4, .null, .null, .null], [.int 1, .int 0, .int x4], w3)) 3 rfl).trans <|
    (runs_callS (rv := some (.int r4)) (w' := w4) rfl rfl rfl h7).trans <|
    (runs_if_f (a := 50) (b := 52) (L := [.ref 34, .int x1, .int x2, .int x3, .int x4, .null, .null, .null]) (st := []) (w := w4) rfl h8).trans <|
    (runs_stps (q' := (55, [.ref 34, .int x1, .int x2, .int x3, .int x4, .null, .null, .null], [.int x3, .int x2, .ref 34], w4)) 3 rfl).trans <|
    (runs_callV (rv := none) (w' := w5) rfl rfl rfl rfl h9).trans <|
    (runs_stps (q' := (67, [.ref 34, .int x1, .int x2, .int x3, .int x4, .null, .null, .null], [.int x1, .ref 40, .ref 46], w5)) 5 rfl).trans <|
    (runs_ck (q' := (68, [.ref 34, .int x1, .int x2, .int x3, .int x4, .null, .null, .null], [.int (w5.1 40 x1.toNatClampNeg), .ref 46], w5)) rfl h10).trans <|
    (runs_ck (q' := (69, [.ref 34, .int x1, .int x2, .int x3, .int x4, .null, .null, .null], [.int (w5.1 46 ((w5.1 40 x1.toNatClampNeg).toNatClampNeg))], w5)) rfl h11).trans <|
    (runs_stps (q' := (75, [.ref 34, .int x1, .int x2, .int x3, .int x4, .int (w5.1 46 ((w5.1 40 x1.toNatClampNeg).toNatClampNeg)), .null, .null], [.int 1000000, .int (w5.1 46 ((w5.1 40 x1.toNatClampNeg).toNatClampNeg))], w5)) 3 rfl).trans <|
    (runs_if_f (a := 78) (b := 81) (L := [.ref 34, .int x1, .int x2, .int x3, .int x4, .int (w5.1 46 ((w5.1 40 x1.toNatClampNeg).toNatClampNeg)), .null, .null]) (st := []) (w := w5) rfl h12).trans <|
    (runs_stps (q' := (83, [.ref 34, .int x1, .null, .int x3, .int x4, .int (w5.1 46 ((w5.1 40 x1.toNatClampNeg).toNatClampNeg)), .null, .null], [.int x4], w5)) 1 rfl).trans <|
    (runs_if_t (a := 86) (b := 93) (L := [.ref 34, .int x1, .null, .int x3, .int x4, .int (w5.1 46 ((w5.1 40 x1.toNatClampNeg).toNatClampNeg)), .null, .null]) (st := []) (w := w5) rfl h13).trans <|
    (runs_stps (q' := (92, [.ref 34, .int x1, .null, .int x3, .int x4, .int (w5.1 46 ((w5.1 40 x1.toNatClampNeg).toNatClampNeg)), .null, .null], [.int ((w5.1 46 ((w5.1 40 x1.toNatClampNeg).toNatClampNeg)) / 1000)], w5)) 3 rfl).trans <|
    runs_ret rfl
theorem p_X9_cheapest_0FFFTF_R {ex : Ex} {x1 : Int32} {x2 : Int32} {x3 : Int32} {x4 : Int32} {r1 : Int32} {w1 : Wd} {r2 : Int32} {w2 : Wd} {r3 : Int32} {w3 : Wd} {r4 : Int32} {w4 : Wd} {w5 : Wd} {w : Wd} (h1 : ex 152 [.ref 34, .int x1] (updI w 34 0 0) = some (some (.int r1), w1)) (h2 : ¬ r1 = 0) (h3 : ex 135 [.int x2, .int 0, .int 1023] w1 = some (some (.int r2), w2)) (h4 : ¬ r2 = 0) (h5 : ex 135 [.int x3, .int 0, .int ((1 <<< ((w2.1 34 15) &&& 31)) - 1)] w2 = some (some (.int r3), w3)) (h6 : ¬ r3 = 0) (h7 : ex 135 [.int x4, .int 0, .int 1] w3 = some (some (.int r4), w4)) (h8 : ¬ r4 = 0) (h9 : ex 175 [.ref 34, .int x2, .int x3] w4 = some (none, w5)) (h10 : vp_in x1 5) (h11 : vp_in (w5.1 40 x1.toNatClampNeg) 7776) (h12 : (w5.1 46 ((w5.1 40 x1.toNatClampNeg).toNatClampNeg)) = 1000000) : runs (T_X9_cheapest ex) (0, [.ref 34, .int x1, .int x2, .int x3, .int x4, .null, .null, .null], [], w) = some (some (.int (-9)), w5) := 
    (runs_stps (q' := (7, [.ref 34, .int x1, .int x2, .int x3, .int x4, .null, .null, .null], [.int x1, .ref 34], updI w 34 0 0)) 5 rfl).trans <|
    (runs_callV (rv := some (.int r1)) (w' := w1) rfl rfl rfl rfl h1).trans <|
    (runs_if_f (a := 50) (b := 13) (L := [.ref 34, .int x1, .int x2, .int x3, .int x4, .null, .null, .null]) (st := []) (w := w1) rfl h2).trans <|
    (runs_stps (q' := (18, [.ref 34, .int x1, .int x2, .int x3, .int x4, .null, .null, .null], [.int 1023, .int 0, .int x2], w1)) 3 rfl).trans <|
    (runs_callS (rv := some (.int r2)) (w' := w2) rfl rfl rfl h3).trans <|
    (runs_if_f (a := 50) (b := 24) (L := [.ref 34, .int x1, .int x2, .int x3, .int x4, .null, .null, .null]) (st := []) (w := w2) rfl h4).trans <|
    (runs_stps (q' := (34, [.ref 34, .int x1, .int x2, .int x3, .int x4, .null, .null, .null], [.int ((1 <<< ((w2.1 34 15) &&& 31)) - 1), .int 0, .int x3], w2)) 8 rfl).trans <|
    (runs_callS (rv := some (.int r3)) (w' := w3) rfl rfl rfl h5).trans <|
    (runs_if_f (a := 50) (b := 40) (L := [.ref 34, .int x1, .int x2, .int x3, .int x4, .null, .null, .null]) (st := []) (w := w3) rfl h6).trans <|
    (runs_stps (q' := (44, [.ref 34, .int x1, .int x2, .int x3, .int x4, .null, .null, .null], [.int 1, .int 0, .int x4], w3)) 3 rfl).trans <|
    (runs_callS (rv := some (.int r4)) (w' := w4) rfl rfl rfl h7).trans <|
    (runs_if_f (a := 50) (b := 52) (L := [.ref 34, .int x1, .int x2, .int x3, .int x4, .null, .null, .null]) (st := []) (w := w4) rfl h8).trans <|
    (runs_stps (q' := (55, [.ref 34, .int x1, .int x2, .int x3, .int x4, .null, .null, .null], [.int x3, .int x2, .ref 34], w4)) 3 rfl).trans <|
    (runs_callV (rv := none) (w' := w5) rfl rfl rfl rfl h9).trans <|
    (runs_stps (q' := (67, [.ref 34, .int x1, .int x2, .int x3, .int x4, .null, .null, .null], [.int x1, .ref 40, .ref 46], w5)) 5 rfl).trans <|
    (runs_ck (q' := (68, [.ref 34, .int x1, .int x2, .int x3, .int x4, .null, .null, .null], [.int (w5.1 40 x1.toNatClampNeg), .ref 46], w5)) rfl h10).trans <|
    (runs_ck (q' := (69, [.ref 34, .int x1, .int x2, .int x3, .int x4, .null, .null, .null], [.int (w5.1 46 ((w5.1 40 x1.toNatClampNeg).toNatClampNeg))], w5)) rfl h11).trans <|
    (runs_stps (q' := (75, [.ref 34, .int x1, .int x2, .int x3, .int x4, .int (w5.1 46 ((w5.1 40 x1.toNatClampNeg).toNatClampNeg)), .null, .null], [.int 1000000, .int (w5.1 46 ((w5.1 40 x1.toNatClampNeg).toNatClampNeg))], w5)) 3 rfl).trans <|
    (runs_if_t (a := 78) (b := 81) (L := [.ref 34, .int x1, .int x2, .int x3, .int x4, .int (w5.1 46 ((w5.1 40 x1.toNatClampNeg).toNatClampNeg)), .null, .null]) (st := []) (w := w5) rfl h12).trans <|
    (runs_stps (q' := (80, [.ref 34, .int x1, .int x2, .int x3, .int x4, .int (w5.1 46 ((w5.1 40 x1.toNatClampNeg).toNatClampNeg)), .null, .null], [.int (-9)], w5)) 1 rfl).trans <|
    runs_ret rfl
theorem p_X9_cheapest_0FFFF_R {ex : Ex} {x1 : Int32} {x2 : Int32} {x3 : Int32} {x4 : Int32} {r1 : Int32} {w1 : Wd} {r2 : Int32} {w2 : Wd} {r3 : Int32} {w3 : Wd} {r4 : Int32} {w4 : Wd} {w : Wd} (h1 : ex 152 [.ref 34, .int x1] (updI w 34 0 0) = some (some (.int r1), w1)) (h2 : ¬ r1 = 0) (h3 : ex 135 [.int x2, .int 0, .int 1023] w1 = some (some (.int r2), w2)) (h4 : ¬ r2 = 0) (h5 : ex 135 [.int x3, .int 0, .int ((1 <<< ((w2.1 34 15) &&& 31)) - 1)] w2 = some (some (.int r3), w3)) (h6 : ¬ r3 = 0) (h7 : ex 135 [.int x4, .int 0, .int 1] w3 = some (some (.int r4), w4)) (h8 : r4 = 0) : runs (T_X9_cheapest ex) (0, [.ref 34, .int x1, .int x2, .int x3, .int x4, .null, .null, .null], [], w) = some (some (.int (-1)), w4) := 
    (runs_stps (q' := (7, [.ref 34, .int x1, .int x2, .int x3, .int x4, .null, .null, .null], [.int x1, .ref 34], updI w 34 0 0)) 5 rfl).trans <|
    (runs_callV (rv := some (.int r1)) (w' := w1) rfl rfl rfl rfl h1).trans <|
    (runs_if_f (a := 50) (b := 13) (L := [.ref 34, .int x1, .int x2, .int x3, .int x4, .null, .null, .null]) (st := []) (w := w1) rfl h2).trans <|
    (runs_stps (q' := (18, [.ref 34, .int x1, .int x2, .int x3, .int x4, .null, .null, .null], [.int 1023, .int 0, .int x2], w1)) 3 rfl).trans <|
    (runs_callS (rv := some (.int r2)) (w' := w2) rfl rfl rfl h3).trans <|
    (runs_if_f (a := 50) (b := 24) (L := [.ref 34, .int x1, .int x2, .int x3, .int x4, .null, .null, .null]) (st := []) (w := w2) rfl h4).trans <|
    (runs_stps (q' := (34, [.ref 34, .int x1, .int x2, .int x3, .int x4, .null, .null, .null], [.int ((1 <<< ((w2.1 34 15) &&& 31)) - 1), .int 0, .int x3], w2)) 8 rfl).trans <|
    (runs_callS (rv := some (.int r3)) (w' := w3) rfl rfl rfl h5).trans <|
    (runs_if_f (a := 50) (b := 40) (L := [.ref 34, .int x1, .int x2, .int x3, .int x4, .null, .null, .null]) (st := []) (w := w3) rfl h6).trans <|
    (runs_stps (q' := (44, [.ref 34, .int x1, .int x2, .int x3, .int x4, .null, .null, .null], [.int 1, .int 0, .int x4], w3)) 3 rfl).trans <|
    (runs_callS (rv := some (.int r4)) (w' := w4) rfl rfl rfl h7).trans <|
    (runs_if_t (a := 50) (b := 52) (L := [.ref 34, .int x1, .int x2, .int x3, .int x4, .null, .null, .null]) (st := []) (w := w4) rfl h8).trans <|
    (runs_stps (q' := (51, [.null, .null, .null, .null, .null, .null, .null, .null], [.int (-1)], w4)) 1 rfl).trans <|
    runs_ret rfl
theorem p_X9_cheapest_96T_R {ex : Ex} {x1 : Int32} {v2 : Value} {x3 : Int32} {v4 : Value} {x5 : Int32} {x6 : Int32} {v7 : Value} {w : Wd} (h1 : 6 < x6) : runs (T_X9_cheapest ex) (96, [.ref 34, .int x1, v2, .int x3, v4, .int x5, .int x6, v7], [], w) = some (some (.int (-5)), w) := 
    (runs_stps (q' := (100, [.ref 34, .int x1, .null, .int x3, .null, .int x5, .int x6, .null], [.int 6, .int x6], w)) 2 rfl).trans <|
    (runs_if_t (a := 176) (b := 103) (L := [.ref 34, .int x1, .null, .int x3, .null, .int x5, .int x6, .null]) (st := []) (w := w) rfl h1).trans <|
    (runs_stps (q' := (178, [.null, .null, .null, .null, .null, .null, .null, .null], [.int (-5)], w)) 1 rfl).trans <|
    runs_ret rfl
theorem p_X9_cheapest_96FT_R {ex : Ex} {x1 : Int32} {v2 : Value} {x3 : Int32} {v4 : Value} {x5 : Int32} {x6 : Int32} {v7 : Value} {w : Wd} (h1 : ¬ 6 < x6) (h2 : x5 ≤ 0) : runs (T_X9_cheapest ex) (96, [.ref 34, .int x1, v2, .int x3, v4, .int x5, .int x6, v7], [], w) = some (some (.int (-5)), w) := 
    (runs_stps (q' := (100, [.ref 34, .int x1, .null, .int x3, .null, .int x5, .int x6, .null], [.int 6, .int x6], w)) 2 rfl).trans <|
    (runs_if_f (a := 176) (b := 103) (L := [.ref 34, .int x1, .null, .int x3, .null, .int x5, .int x6, .null]) (st := []) (w := w) rfl h1).trans <|
    (runs_stps (q' := (105, [.ref 34, .int x1, .null, .int x3, .null, .int x5, .int x6, .null], [.int x5], w)) 1 rfl).trans <|
    (runs_if_t (a := 176) (b := 108) (L := [.ref 34, .int x1, .null, .int x3, .null, .int x5, .int x6, .null]) (st := []) (w := w) rfl h2).trans <|
    (runs_stps (q' := (178, [.null, .null, .null, .null, .null, .null, .null, .null], [.int (-5)], w)) 1 rfl).trans <|
    runs_ret rfl
theorem p_X9_cheapest_96FFT_L96 {ex : Ex} {x1 : Int32} {v2 : Value} {x3 : Int32} {v4 : Value} {x5 : Int32} {x6 : Int32} {v7 : Value} {r1 : Int32} {w1 : Wd} {w : Wd} (h1 : ¬ 6 < x6) (h2 : ¬ x5 ≤ 0) (h3 : vp_in x1 5) (h4 : ex 171 [.ref 34, .int (w.1 40 x1.toNatClampNeg), .int x6, .int x3] w = some (some (.int r1), w1)) (h5 : r1 = (-9)) : runs (T_X9_cheapest ex) (96, [.ref 34, .int x1, v2, .int x3, v4, .int x5, .int x6, v7], [], w) = runs (T_X9_cheapest ex) (96, [.ref 34, .int x1, .null, .int x3, .null, .int x5, .int (x6 + 1), .null], [], w1) := 
    (runs_stps (q' := (100, [.ref 34, .int x1, .null, .int x3, .null, .int x5, .int x6, .null], [.int 6, .int x6], w)) 2 rfl).trans <|
    (runs_if_f (a := 176) (b := 103) (L := [.ref 34, .int x1, .null, .int x3, .null, .int x5, .int x6, .null]) (st := []) (w := w) rfl h1).trans <|
    (runs_stps (q' := (105, [.ref 34, .int x1, .null, .int x3, .null, .int x5, .int x6, .null], [.int x5], w)) 1 rfl).trans <|
    (runs_if_f (a := 176) (b := 108) (L := [.ref 34, .int x1, .null, .int x3, .null, .int x5, .int x6, .null]) (st := []) (w := w) rfl h2).trans <|
    (runs_stps (q' := (114, [.ref 34, .int x1, .null, .int x3, .null, .int x5, .int x6, .null], [.int x1, .ref 40, .ref 34], w)) 4 rfl).trans <|
    (runs_ck (q' := (115, [.ref 34, .int x1, .null, .int x3, .null, .int x5, .int x6, .null], [.int (w.1 40 x1.toNatClampNeg), .ref 34], w)) rfl h3).trans <|
    (runs_stps (q' := (118, [.ref 34, .int x1, .null, .int x3, .null, .int x5, .int x6, .null], [.int x3, .int x6, .int (w.1 40 x1.toNatClampNeg), .ref 34], w)) 2 rfl).trans <|
    (runs_callV (rv := some (.int r1)) (w' := w1) rfl rfl rfl rfl h4).trans <|
    (runs_stps (q' := (127, [.ref 34, .int x1, .null, .int x3, .null, .int x5, .int x6, .int r1], [.int (-9), .int r1], w1)) 3 rfl).trans <|
    (runs_if_t (a := 170) (b := 130) (L := [.ref 34, .int x1, .null, .int x3, .null, .int x5, .int x6, .int r1]) (st := []) (w := w1) rfl h5).trans <|
    (runs_stps (q' := (96, [.ref 34, .int x1, .null, .int x3, .null, .int x5, .int (x6 + 1), .null], [], w1)) 2 rfl).trans <|
    rfl
theorem p_X9_cheapest_96FFFT_L96 {ex : Ex} {x1 : Int32} {v2 : Value} {x3 : Int32} {v4 : Value} {x5 : Int32} {x6 : Int32} {v7 : Value} {r1 : Int32} {w1 : Wd} {w : Wd} (h1 : ¬ 6 < x6) (h2 : ¬ x5 ≤ 0) (h3 : vp_in x1 5) (h4 : ex 171 [.ref 34, .int (w.1 40 x1.toNatClampNeg), .int x6, .int x3] w = some (some (.int r1), w1)) (h5 : ¬ r1 = (-9)) (h6 : vp_in r1 7776) (h7 : 1000000 ≤ (w1.1 46 r1.toNatClampNeg)) : runs (T_X9_cheapest ex) (96, [.ref 34, .int x1, v2, .int x3, v4, .int x5, .int x6, v7], [], w) = runs (T_X9_cheapest ex) (96, [.ref 34, .int x1, .null, .int x3, .null, .int x5, .int (x6 + 1), .null], [], w1) := 
    (runs_stps (q' := (100, [.ref 34, .int x1, .null, .int x3, .null, .int x5, .int x6, .null], [.int 6, .int x6], w)) 2 rfl).trans <|
    (runs_if_f (a := 176) (b := 103) (L := [.ref 34, .int x1, .null, .int x3, .null, .int x5, .int x6, .null]) (st := []) (w := w) rfl h1).trans <|
    (runs_stps (q' := (105, [.ref 34, .int x1, .null, .int x3, .null, .int x5, .int x6, .null], [.int x5], w)) 1 rfl).trans <|
    (runs_if_f (a := 176) (b := 108) (L := [.ref 34, .int x1, .null, .int x3, .null, .int x5, .int x6, .null]) (st := []) (w := w) rfl h2).trans <|
    (runs_stps (q' := (114, [.ref 34, .int x1, .null, .int x3, .null, .int x5, .int x6, .null], [.int x1, .ref 40, .ref 34], w)) 4 rfl).trans <|
    (runs_ck (q' := (115, [.ref 34, .int x1, .null, .int x3, .null, .int x5, .int x6, .null], [.int (w.1 40 x1.toNatClampNeg), .ref 34], w)) rfl h3).trans <|
    (runs_stps (q' := (118, [.ref 34, .int x1, .null, .int x3, .null, .int x5, .int x6, .null], [.int x3, .int x6, .int (w.1 40 x1.toNatClampNeg), .ref 34], w)) 2 rfl).trans <|
    (runs_callV (rv := some (.int r1)) (w' := w1) rfl rfl rfl rfl h4).trans <|
    (runs_stps (q' := (127, [.ref 34, .int x1, .null, .int x3, .null, .int x5, .int x6, .int r1], [.int (-9), .int r1], w1)) 3 rfl).trans <|
    (runs_if_f (a := 170) (b := 130) (L := [.ref 34, .int x1, .null, .int x3, .null, .int x5, .int x6, .int r1]) (st := []) (w := w1) rfl h5).trans <|
    (runs_stps (q' := (136, [.ref 34, .int x1, .null, .int x3, .null, .int x5, .int x6, .int r1], [.int r1, .ref 46], w1)) 3 rfl).trans <|
    (runs_ck (q' := (137, [.ref 34, .int x1, .null, .int x3, .null, .int x5, .int x6, .int r1], [.int (w1.1 46 r1.toNatClampNeg)], w1)) rfl h6).trans <|
    (runs_stps (q' := (139, [.ref 34, .int x1, .null, .int x3, .null, .int x5, .int x6, .int r1], [.int 1000000, .int (w1.1 46 r1.toNatClampNeg)], w1)) 1 rfl).trans <|
    (runs_if_t (a := 170) (b := 142) (L := [.ref 34, .int x1, .null, .int x3, .null, .int x5, .int x6, .int r1]) (st := []) (w := w1) rfl h7).trans <|
    (runs_stps (q' := (96, [.ref 34, .int x1, .null, .int x3, .null, .int x5, .int (x6 + 1), .null], [], w1)) 2 rfl).trans <|
    rfl
theorem p_X9_cheapest_96FFFFT_L96 {ex : Ex} {x1 : Int32} {v2 : Value} {x3 : Int32} {v4 : Value} {x5 : Int32} {x6 : Int32} {v7 : Value} {r1 : Int32} {w1 : Wd} {r2 : Int32} {w2 : Wd} {w : Wd} (h1 : ¬ 6 < x6) (h2 : ¬ x5 ≤ 0) (h3 : vp_in x1 5) (h4 : ex 171 [.ref 34, .int (w.1 40 x1.toNatClampNeg), .int x6, .int x3] w = some (some (.int r1), w1)) (h5 : ¬ r1 = (-9)) (h6 : vp_in r1 7776) (h7 : ¬ 1000000 ≤ (w1.1 46 r1.toNatClampNeg)) (h8 : vp_in r1 7776) (h9 : vp_in x1 5) (h10 : ex 172 [.ref 34, .int (w1.1 40 x1.toNatClampNeg), .int x6] w1 = some (some (.int r2), w2)) (h11 : ¬ ((w1.1 46 r1.toNatClampNeg) + r2) = x5) : runs (T_X9_cheapest ex) (96, [.ref 34, .int x1, v2, .int x3, v4, .int x5, .int x6, v7], [], w) = runs (T_X9_cheapest ex) (96, [.ref 34, .int x1, .null, .int x3, .null, .int x5, .int (x6 + 1), .null], [], w2) := 
    (runs_stps (q' := (100, [.ref 34, .int x1, .null, .int x3, .null, .int x5, .int x6, .null], [.int 6, .int x6], w)) 2 rfl).trans <|
    (runs_if_f (a := 176) (b := 103) (L := [.ref 34, .int x1, .null, .int x3, .null, .int x5, .int x6, .null]) (st := []) (w := w) rfl h1).trans <|
    (runs_stps (q' := (105, [.ref 34, .int x1, .null, .int x3, .null, .int x5, .int x6, .null], [.int x5], w)) 1 rfl).trans <|
    (runs_if_f (a := 176) (b := 108) (L := [.ref 34, .int x1, .null, .int x3, .null, .int x5, .int x6, .null]) (st := []) (w := w) rfl h2).trans <|
    (runs_stps (q' := (114, [.ref 34, .int x1, .null, .int x3, .null, .int x5, .int x6, .null], [.int x1, .ref 40, .ref 34], w)) 4 rfl).trans <|
    (runs_ck (q' := (115, [.ref 34, .int x1, .null, .int x3, .null, .int x5, .int x6, .null], [.int (w.1 40 x1.toNatClampNeg), .ref 34], w)) rfl h3).trans <|
    (runs_stps (q' := (118, [.ref 34, .int x1, .null, .int x3, .null, .int x5, .int x6, .null], [.int x3, .int x6, .int (w.1 40 x1.toNatClampNeg), .ref 34], w)) 2 rfl).trans <|
    (runs_callV (rv := some (.int r1)) (w' := w1) rfl rfl rfl rfl h4).trans <|
    (runs_stps (q' := (127, [.ref 34, .int x1, .null, .int x3, .null, .int x5, .int x6, .int r1], [.int (-9), .int r1], w1)) 3 rfl).trans <|
    (runs_if_f (a := 170) (b := 130) (L := [.ref 34, .int x1, .null, .int x3, .null, .int x5, .int x6, .int r1]) (st := []) (w := w1) rfl h5).trans <|
    (runs_stps (q' := (136, [.ref 34, .int x1, .null, .int x3, .null, .int x5, .int x6, .int r1], [.int r1, .ref 46], w1)) 3 rfl).trans <|
    (runs_ck (q' := (137, [.ref 34, .int x1, .null, .int x3, .null, .int x5, .int x6, .int r1], [.int (w1.1 46 r1.toNatClampNeg)], w1)) rfl h6).trans <|
    (runs_stps (q' := (139, [.ref 34, .int x1, .null, .int x3, .null, .int x5, .int x6, .int r1], [.int 1000000, .int (w1.1 46 r1.toNatClampNeg)], w1)) 1 rfl).trans <|
    (runs_if_f (a := 170) (b := 142) (L := [.ref 34, .int x1, .null, .int x3, .null, .int x5, .int x6, .int r1]) (st := []) (w := w1) rfl h7).trans <|
    (runs_stps (q' := (148, [.ref 34, .int x1, .null, .int x3, .null, .int x5, .int x6, .int r1], [.int r1, .ref 46], w1)) 3 rfl).trans <|
    (runs_ck (q' := (149, [.ref 34, .int x1, .null, .int x3, .null, .int x5, .int x6, .int r1], [.int (w1.1 46 r1.toNatClampNeg)], w1)) rfl h8).trans <|
    (runs_stps (q' := (155, [.ref 34, .int x1, .null, .int x3, .null, .int x5, .int x6, .int r1], [.int x1, .ref 40, .ref 34, .int (w1.1 46 r1.toNatClampNeg)], w1)) 4 rfl).trans <|
    (runs_ck (q' := (156, [.ref 34, .int x1, .null, .int x3, .null, .int x5, .int x6, .int r1], [.int (w1.1 40 x1.toNatClampNeg), .ref 34, .int (w1.1 46 r1.toNatClampNeg)], w1)) rfl h9).trans <|
    (runs_stps (q' := (158, [.ref 34, .int x1, .null, .int x3, .null, .int x5, .int x6, .int r1], [.int x6, .int (w1.1 40 x1.toNatClampNeg), .ref 34, .int (w1.1 46 r1.toNatClampNeg)], w1)) 1 rfl).trans <|
    (runs_callV (rv := some (.int r2)) (w' := w2) rfl rfl rfl rfl h10).trans <|
    (runs_stps (q' := (164, [.ref 34, .int x1, .null, .int x3, .null, .int x5, .int x6, .int r1], [.int x5, .int ((w1.1 46 r1.toNatClampNeg) + r2)], w2)) 2 rfl).trans <|
    (runs_if_f (a := 167) (b := 170) (L := [.ref 34, .int x1, .null, .int x3, .null, .int x5, .int x6, .int r1]) (st := []) (w := w2) rfl h11).trans <|
    (runs_stps (q' := (96, [.ref 34, .int x1, .null, .int x3, .null, .int x5, .int (x6 + 1), .null], [], w2)) 2 rfl).trans <|
    rfl
theorem p_X9_cheapest_96FFFFF_R {ex : Ex} {x1 : Int32} {v2 : Value} {x3 : Int32} {v4 : Value} {x5 : Int32} {x6 : Int32} {v7 : Value} {r1 : Int32} {w1 : Wd} {r2 : Int32} {w2 : Wd} {w : Wd} (h1 : ¬ 6 < x6) (h2 : ¬ x5 ≤ 0) (h3 : vp_in x1 5) (h4 : ex 171 [.ref 34, .int (w.1 40 x1.toNatClampNeg), .int x6, .int x3] w = some (some (.int r1), w1)) (h5 : ¬ r1 = (-9)) (h6 : vp_in r1 7776) (h7 : ¬ 1000000 ≤ (w1.1 46 r1.toNatClampNeg)) (h8 : vp_in r1 7776) (h9 : vp_in x1 5) (h10 : ex 172 [.ref 34, .int (w1.1 40 x1.toNatClampNeg), .int x6] w1 = some (some (.int r2), w2)) (h11 : ((w1.1 46 r1.toNatClampNeg) + r2) = x5) : runs (T_X9_cheapest ex) (96, [.ref 34, .int x1, v2, .int x3, v4, .int x5, .int x6, v7], [], w) = some (some (.int x6), w2) := 
    (runs_stps (q' := (100, [.ref 34, .int x1, .null, .int x3, .null, .int x5, .int x6, .null], [.int 6, .int x6], w)) 2 rfl).trans <|
    (runs_if_f (a := 176) (b := 103) (L := [.ref 34, .int x1, .null, .int x3, .null, .int x5, .int x6, .null]) (st := []) (w := w) rfl h1).trans <|
    (runs_stps (q' := (105, [.ref 34, .int x1, .null, .int x3, .null, .int x5, .int x6, .null], [.int x5], w)) 1 rfl).trans <|
    (runs_if_f (a := 176) (b := 108) (L := [.ref 34, .int x1, .null, .int x3, .null, .int x5, .int x6, .null]) (st := []) (w := w) rfl h2).trans <|
    (runs_stps (q' := (114, [.ref 34, .int x1, .null, .int x3, .null, .int x5, .int x6, .null], [.int x1, .ref 40, .ref 34], w)) 4 rfl).trans <|
    (runs_ck (q' := (115, [.ref 34, .int x1, .null, .int x3, .null, .int x5, .int x6, .null], [.int (w.1 40 x1.toNatClampNeg), .ref 34], w)) rfl h3).trans <|
    (runs_stps (q' := (118, [.ref 34, .int x1, .null, .int x3, .null, .int x5, .int x6, .null], [.int x3, .int x6, .int (w.1 40 x1.toNatClampNeg), .ref 34], w)) 2 rfl).trans <|
    (runs_callV (rv := some (.int r1)) (w' := w1) rfl rfl rfl rfl h4).trans <|
    (runs_stps (q' := (127, [.ref 34, .int x1, .null, .int x3, .null, .int x5, .int x6, .int r1], [.int (-9), .int r1], w1)) 3 rfl).trans <|
    (runs_if_f (a := 170) (b := 130) (L := [.ref 34, .int x1, .null, .int x3, .null, .int x5, .int x6, .int r1]) (st := []) (w := w1) rfl h5).trans <|
    (runs_stps (q' := (136, [.ref 34, .int x1, .null, .int x3, .null, .int x5, .int x6, .int r1], [.int r1, .ref 46], w1)) 3 rfl).trans <|
    (runs_ck (q' := (137, [.ref 34, .int x1, .null, .int x3, .null, .int x5, .int x6, .int r1], [.int (w1.1 46 r1.toNatClampNeg)], w1)) rfl h6).trans <|
    (runs_stps (q' := (139, [.ref 34, .int x1, .null, .int x3, .null, .int x5, .int x6, .int r1], [.int 1000000, .int (w1.1 46 r1.toNatClampNeg)], w1)) 1 rfl).trans <|
    (runs_if_f (a := 170) (b := 142) (L := [.ref 34, .int x1, .null, .int x3, .null, .int x5, .int x6, .int r1]) (st := []) (w := w1) rfl h7).trans <|
    (runs_stps (q' := (148, [.ref 34, .int x1, .null, .int x3, .null, .int x5, .int x6, .int r1], [.int r1, .ref 46], w1)) 3 rfl).trans <|
    (runs_ck (q' := (149, [.ref 34, .int x1, .null, .int x3, .null, .int x5, .int x6, .int r1], [.int (w1.1 46 r1.toNatClampNeg)], w1)) rfl h8).trans <|
    (runs_stps (q' := (155, [.ref 34, .int x1, .null, .int x3, .null, .int x5, .int x6, .int r1], [.int x1, .ref 40, .ref 34, .int (w1.1 46 r1.toNatClampNeg)], w1)) 4 rfl).trans <|
    (runs_ck (q' := (156, [.ref 34, .int x1, .null, .int x3, .null, .int x5, .int x6, .int r1], [.int (w1.1 40 x1.toNatClampNeg), .ref 34, .int (w1.1 46 r1.toNatClampNeg)], w1)) rfl h9).trans <|
    (runs_stps (q' := (158, [.ref 34, .int x1, .null, .int x3, .null, .int x5, .int x6, .int r1], [.int x6, .int (w1.1 40 x1.toNatClampNeg), .ref 34, .int (w1.1 46 r1.toNatClampNeg)], w1)) 1 rfl).trans <|
    (runs_callV (rv := some (.int r2)) (w' := w2) rfl rfl rfl rfl h10).trans <|
    (runs_stps (q' := (164, [.ref 34, .int x1, .null, .int x3, .null, .int x5, .int x6, .int r1], [.int x5, .int ((w1.1 46 r1.toNatClampNeg) + r2)], w2)) 2 rfl).trans <|
    (runs_if_t (a := 167) (b := 170) (L := [.ref 34, .int x1, .null, .int x3, .null, .int x5, .int x6, .int r1]) (st := []) (w := w2) rfl h11).trans <|
    (runs_stps (q' := (169, [.ref 34, .int x1, .null, .int x3, .null, .int x5, .int x6, .int r1], [.int x6], w2)) 1 rfl).trans <|
    runs_ret rfl
theorem p_X9_takes__0T_R {ex : Ex} {x1 : Int32} {x2 : Int32} {r1 : Int32} {w1 : Wd} {w : Wd} (h1 : ex 152 [.ref 34, .int x1] (updI w 34 0 0) = some (some (.int r1), w1)) (h2 : r1 = 0) : runs (T_X9_takes_ ex) (0, [.ref 34, .int x1, .int x2, .null, .null], [], w) = some (some (.int (-1)), w1) := 
    (runs_stps (q' := (7, [.ref 34, .int x1, .int x2, .null, .null], [.int x1, .ref 34], updI w 34 0 0)) 5 rfl).trans <|
    (runs_callV (rv := some (.int r1)) (w' := w1) rfl rfl rfl rfl h1).trans <|
    (runs_if_t (a := 24) (b := 13) (L := [.ref 34, .int x1, .int x2, .null, .null]) (st := []) (w := w1) rfl h2).trans <|
    (runs_stps (q' := (25, [.null, .null, .null, .null, .null], [.int (-1)], w1)) 1 rfl).trans <|
    runs_ret rfl
theorem p_X9_takes__0FT_L32 {ex : Ex} {x1 : Int32} {x2 : Int32} {r1 : Int32} {w1 : Wd} {r2 : Int32} {w2 : Wd} {w : Wd} (h1 : ex 152 [.ref 34, .int x1] (updI w 34 0 0) = some (some (.int r1), w1)) (h2 : ¬ r1 = 0) (h3 : ex 135 [.int x2, .int 0, .int 1023] w1 = some (some (.int r2), w2)) (h4 : ¬ r2 = 0) : runs (T_X9_takes_ ex) (0, [.ref 34, .int x1, .int x2, .null, .null], [], w) = runs (T_X9_takes_ ex) (32, [.ref 34, .int x1, .int x2, .int (-9), .int 0], [], w2) := 
    (runs_stps (q' := (7, [.ref 34, .int x1, .int x2, .null, .null], [.int x1, .ref 34], updI w 34 0 0)) 5 rfl).trans <|
    (runs_callV (rv := some (.int r1)) (w' := w1) rfl rfl rfl rfl h1).trans <|
    (runs_if_f (a := 24) (b := 13) (L := [.ref 34, .int x1, .int x2, .null, .null]) (st := []) (w := w1) rfl h2).trans <|
    (runs_stps (q' := (18, [.ref 34, .int x1, .int x2, .null, .null], [.int 1023, .int 0, .int x2], w1)) 3 rfl).trans <|
    (runs_callS (rv := some (.int r2)) (w' := w2) rfl rfl rfl h3).trans <|
    (runs_if_f (a := 24) (b := 26) (L := [.ref 34, .int x1, .int x2, .null, .null]) (st := []) (w := w2) rfl h4).trans <|
    (runs_stps (q' := (32, [.ref 34, .int x1, .int x2, .int (-9), .int 0], [], w2)) 4 rfl).trans <|
    rfl
theorem p_X9_takes__0FF_R {ex : Ex} {x1 : Int32} {x2 : Int32} {r1 : Int32} {w1 : Wd} {r2 : Int32} {w2 : Wd} {w : Wd} (h1 : ex 152 [.ref 34, .int x1] (updI w 34 0 0) = some (some (.int r1), w1)) (h2 : ¬ r1 = 0) (h3 : ex 135 [.int x2, .int 0, .int 1023] w1 = some (some (.int r2), w2)) (h4 : r2 = 0) : runs (T_X9_takes_ ex) (0, [.ref 34, .int x1, .int x2, .null, .null], [], w) = some (some (.int (-1)), w2) := 
    (runs_stps (q' := (7, [.ref 34, .int x1, .int x2, .null, .null], [.int x1, .ref 34], updI w 34 0 0)) 5 rfl).trans <|
    (runs_callV (rv := some (.int r1)) (w' := w1) rfl rfl rfl rfl h1).trans <|
    (runs_if_f (a := 24) (b := 13) (L := [.ref 34, .int x1, .int x2, .null, .null]) (st := []) (w := w1) rfl h2).trans <|
    (runs_stps (q' := (18, [.ref 34, .int x1, .int x2, .null, .null], [.int 1023, .int 0, .int x2], w1)) 3 rfl).trans <|
    (runs_callS (rv := some (.int r2)) (w' := w2) rfl rfl rfl h3).trans <|
    (runs_if_t (a := 24) (b := 26) (L := [.ref 34, .int x1, .int x2, .null, .null]) (st := []) (w := w2) rfl h4).trans <|
    (runs_stps (q' := (25, [.null, .null, .null, .null, .null], [.int (-1)], w2)) 1 rfl).trans <|
    runs_ret rfl
theorem p_X9_takes__32T_R {ex : Ex} {x1 : Int32} {x2 : Int32} {x3 : Int32} {x4 : Int32} {w : Wd} (h1 : (1 <<< ((w.1 34 15) &&& 31)) ≤ x4) : runs (T_X9_takes_ ex) (32, [.ref 34, .int x1, .int x2, .int x3, .int x4], [], w) = some (some (.int x3), w) := 
    (runs_stps (q' := (40, [.ref 34, .int x1, .int x2, .int x3, .int x4], [.int (1 <<< ((w.1 34 15) &&& 31)), .int x4], w)) 5 rfl).trans <|
    (runs_if_t (a := 97) (b := 43) (L := [.ref 34, .int x1, .int x2, .int x3, .int x4]) (st := []) (w := w) rfl h1).trans <|
    (runs_stps (q' := (98, [.null, .null, .null, .int x3, .null], [.int x3], w)) 1 rfl).trans <|
    runs_ret rfl
theorem p_X9_takes__32FTT_L32 {ex : Ex} {x1 : Int32} {x2 : Int32} {x3 : Int32} {x4 : Int32} {w1 : Wd} {w : Wd} (h1 : ¬ (1 <<< ((w.1 34 15) &&& 31)) ≤ x4) (h2 : x3 = (-9)) (h3 : ex 175 [.ref 34, .int x2, .int x4] w = some (none, w1)) (h4 : vp_in x1 5) (h5 : vp_in (w1.1 40 x1.toNatClampNeg) 7776) (h6 : 1000000 ≤ (w1.1 46 ((w1.1 40 x1.toNatClampNeg).toNatClampNeg))) : runs (T_X9_takes_ ex) (32, [.ref 34, .int x1, .int x2, .int x3, .int x4], [], w) = runs (T_X9_takes_ ex) (32, [.ref 34, .int x1, .int x2, .int x3, .int (x4 + 1)], [], w1) := 
    (runs_stps (q' := (40, [.ref 34, .int x1, .int x2, .int x3, .int x4], [.int (1 <<< ((w.1 34 15) &&& 31)), .int x4], w)) 5 rfl).trans <|
    (runs_if_f (a := 97) (b := 43) (L := [.ref 34, .int x1, .int x2, .int x3, .int x4]) (st := []) (w := w) rfl h1).trans <|
    (runs_stps (q' := (46, [.ref 34, .int x1, .int x2, .int x3, .int x4], [.int (-9), .int x3], w)) 2 rfl).trans <|
    (runs_if_t (a := 61) (b := 49) (L := [.ref 34, .int x1, .int x2, .int x3, .int x4]) (st := []) (w := w) rfl h2).trans <|
    (runs_stps (q' := (65, [.ref 34, .int x1, .int x2, .int x3, .int x4], [.int x4, .int x2, .ref 34], w)) 3 rfl).trans <|
    (runs_callV (rv := none) (w' := w1) rfl rfl rfl rfl h3).trans <|
    (runs_stps (q' := (77, [.ref 34, .int x1, .int x2, .int x3, .int x4], [.int x1, .ref 40, .ref 46], w1)) 5 rfl).trans <|
    (runs_ck (q' := (78, [.ref 34, .int x1, .int x2, .int x3, .int x4], [.int (w1.1 40 x1.toNatClampNeg), .ref 46], w1)) rfl h4).trans <|
    (runs_ck (q' := (79, [.ref 34, .int x1, .int x2, .int x3, .int x4], [.int (w1.1 46 ((w1.1 40 x1.toNatClampNeg).toNatClampNeg))], w1)) rfl h5).trans <|
    (runs_stps (q' := (81, [.ref 34, .int x1, .int x2, .int x3, .int x4], [.int 1000000, .int (w1.1 46 ((w1.1 40 x1.toNatClampNeg).toNatClampNeg))], w1)) 1 rfl).trans <|
    (runs_if_t (a := 89) (b := 84) (L := [.ref 34, .int x1, .int x2, .int x3, .int x4]) (st := []) (w := w1) rfl h6).trans <|
    (runs_stps (q' := (32, [.ref 34, .int x1, .int x2, .int x3, .int (x4 + 1)], [], w1)) 4 rfl).trans <|
    rfl
theorem p_X9_takes__32FTF_L32 {ex : Ex} {x1 : Int32} {x2 : Int32} {x3 : Int32} {x4 : Int32} {w1 : Wd} {w : Wd} (h1 : ¬ (1 <<< ((w.1 34 15) &&& 31)) ≤ x4) (h2 : x3 = (-9)) (h3 : ex 175 [.ref 34, .int x2, .int x4] w = some (none, w1)) (h4 : vp_in x1 5) (h5 : vp_in (w1.1 40 x1.toNatClampNeg) 7776) (h6 : ¬ 1000000 ≤ (w1.1 46 ((w1.1 40 x1.toNatClampNeg).toNatClampNeg))) : runs (T_X9_takes_ ex) (32, [.ref 34, .int x1, .int x2, .int x3, .int x4], [], w) = runs (T_X9_takes_ ex) (32, [.ref 34, .int x1, .int x2, .int x4, .int (x4 + 1)], [], w1) := 
    (runs_stps (q' := (40, [.ref 34, .int x1, .int x2, .int x3, .int x4], [.int (1 <<< ((w.1 34 15) &&& 31)), .int x4], w)) 5 rfl).trans <|
    (runs_if_f (a := 97) (b := 43) (L := [.ref 34, .int x1, .int x2, .int x3, .int x4]) (st := []) (w := w) rfl h1).trans <|
    (runs_stps (q' := (46, [.ref 34, .int x1, .int x2, .int x3, .int x4], [.int (-9), .int x3], w)) 2 rfl).trans <|
    (runs_if_t (a := 61) (b := 49) (L := [.ref 34, .int x1, .int x2, .int x3, .int x4]) (st := []) (w := w) rfl h2).trans <|
    (runs_stps (q' := (65, [.ref 34, .int x1, .int x2, .int x3, .int x4], [.int x4, .int x2, .ref 34], w)) 3 rfl).trans <|
    (runs_callV (rv := none) (w' := w1) rfl rfl rfl rfl h3).trans <|
    (runs_stps (q' := (77, [.ref 34, .int x1, .int x2, .int x3, .int x4], [.int x1, .ref 40, .ref 46], w1)) 5 rfl).trans <|
    (runs_ck (q' := (78, [.ref 34, .int x1, .int x2, .int x3, .int x4], [.int (w1.1 40 x1.toNatClampNeg), .ref 46], w1)) rfl h4).trans <|
    (runs_ck (q' := (79, [.ref 34, .int x1, .int x2, .int x3, .int x4], [.int (w1.1 46 ((w1.1 40 x1.toNatClampNeg).toNatClampNeg))], w1)) rfl h5).trans <|
    (runs_stps (q' := (81, [.ref 34, .int x1, .int x2, .int x3, .int x4], [.int 1000000, .int (w1.1 46 ((w1.1 40 x1.toNatClampNeg).toNatClampNeg))], w1)) 1 rfl).trans <|
    (runs_if_f (a := 89) (b := 84) (L := [.ref 34, .int x1, .int x2, .int x3, .int x4]) (st := []) (w := w1) rfl h6).trans <|
    (runs_stps (q' := (32, [.ref 34, .int x1, .int x2, .int x4, .int (x4 + 1)], [], w1)) 5 rfl).trans <|
    rfl
theorem p_X9_takes__32FFT_L32 {ex : Ex} {x1 : Int32} {x2 : Int32} {x3 : Int32} {x4 : Int32} {r1 : Int32} {w1 : Wd} {r2 : Int32} {w2 : Wd} {w : Wd} (h1 : ¬ (1 <<< ((w.1 34 15) &&& 31)) ≤ x4) (h2 : ¬ x3 = (-9)) (h3 : ex 136 [.int x4] w = some (some (.int r1), w1)) (h4 : ex 136 [.int x3] w1 = some (some (.int r2), w2)) (h5 : r2 ≤ r1) : runs (T_X9_takes_ ex) (32, [.ref 34, .int x1, .int x2, .int x3, .int x4], [], w) = runs (T_X9_takes_ ex) (32, [.ref 34, .int x1, .int x2, .int x3, .int (x4 + 1)], [], w2) := 
    (runs_stps (q' := (40, [.ref 34, .int x1, .int x2, .int x3, .int x4], [.int (1 <<< ((w.1 34 15) &&& 31)), .int x4], w)) 5 rfl).trans <|
    (runs_if_f (a := 97) (b := 43) (L := [.ref 34, .int x1, .int x2, .int x3, .int x4]) (st := []) (w := w) rfl h1).trans <|
    (runs_stps (q' := (46, [.ref 34, .int x1, .int x2, .int x3, .int x4], [.int (-9), .int x3], w)) 2 rfl).trans <|
    (runs_if_f (a := 61) (b := 49) (L := [.ref 34, .int x1, .int x2, .int x3, .int x4]) (st := []) (w := w) rfl h2).trans <|
    (runs_stps (q' := (51, [.ref 34, .int x1, .int x2, .int x3, .int x4], [.int x4], w)) 1 rfl).trans <|
    (runs_callS (rv := some (.int r1)) (w' := w1) rfl rfl rfl h3).trans <|
    (runs_stps (q' := (55, [.ref 34, .int x1, .int x2, .int x3, .int x4], [.int x3, .int r1], w1)) 1 rfl).trans <|
    (runs_callS (rv := some (.int r2)) (w' := w2) rfl rfl rfl h4).trans <|
    (runs_if_t (a := 91) (b := 61) (L := [.ref 34, .int x1, .int x2, .int x3, .int x4]) (st := []) (w := w2) rfl h5).trans <|
    (runs_stps (q' := (32, [.ref 34, .int x1, .int x2, .int x3, .int (x4 + 1)], [], w2)) 2 rfl).trans <|
    rfl
theorem p_X9_takes__32FFFT_L32 {ex : Ex} {x1 : Int32} {x2 : Int32} {x3 : Int32} {x4 : Int32} {r1 : Int32} {w1 : Wd} {r2 : Int32} {w2 : Wd} {w3 : Wd} {w : Wd} (h1 : ¬ (1 <<< ((w.1 34 15) &&& 31)) ≤ x4) (h2 : ¬ x3 = (-9)) (h3 : ex 136 [.int x4] w = some (some (.int r1), w1)) (h4 : ex 136 [.int x3] w1 = some (some (.int r2), w2)) (h5 : ¬ r2 ≤ r1) (h6 : ex 175 [.ref 34, .int x2, .int x4] w2 = some (none, w3)) (h7 : vp_in x1 5) (h8 : vp_in (w3.1 40 x1.toNatClampNeg) 7776) (h9 : 1000000 ≤ (w3.1 46 ((w3.1 40 x1.toNatClampNeg).toNatClampNeg))) : runs (T_X9_takes_ ex) (32, [.ref 34, .int x1, .int x2, .int x3, .int x4], [], w) = runs (T_X9_takes_ ex) (32, [.ref 34, .int x1, .int x2, .int x3, .int (x4 + 1)], [], w3) := 
    (runs_stps (q' := (40, [.ref 34, .int x1, .int x2, .int x3, .int x4], [.int (1 <<< ((w.1 34 15) &&& 31)), .int x4], w)) 5 rfl).trans <|
    (runs_if_f (a := 97) (b := 43) (L := [.ref 34, .int x1, .int x2, .int x3, .int x4]) (st := []) (w := w) rfl h1).trans <|
    (runs_stps (q' := (46, [.ref 34, .int x1, .int x2, .int x3, .int x4], [.int (-9), .int x3], w)) 2 rfl).trans <|
    (runs_if_f (a := 61) (b := 49) (L := [.ref 34, .int x1, .int x2, .int x3, .int x4]) (st := []) (w := w) rfl h2).trans <|
    (runs_stps (q' := (51, [.ref 34, .int x1, .int x2, .int x3, .int x4], [.int x4], w)) 1 rfl).trans <|
    (runs_callS (rv := some (.int r1)) (w' := w1) rfl rfl rfl h3).trans <|
    (runs_stps (q' := (55, [.ref 34, .int x1, .int x2, .int x3, .int x4], [.int x3, .int r1], w1)) 1 rfl).trans <|
    (runs_callS (rv := some (.int r2)) (w' := w2) rfl rfl rfl h4).trans <|
    (runs_if_f (a := 91) (b := 61) (L := [.ref 34, .int x1, .int x2, .int x3, .int x4]) (st := []) (w := w2) rfl h5).trans <|
    (runs_stps (q' := (65, [.ref 34, .int x1, .int x2, .int x3, .int x4], [.int x4, .int x2, .ref 34], w2)) 3 rfl).trans <|
    (runs_callV (rv := none) (w' := w3) rfl rfl rfl rfl h6).trans <|
    (runs_stps (q' := (77, [.ref 34, .int x1, .int x2, .int x3, .int x4], [.int x1, .ref 40, .ref 46], w3)) 5 rfl).trans <|
    (runs_ck (q' := (78, [.ref 34, .int x1, .int x2, .int x3, .int x4], [.int (w3.1 40 x1.toNatClampNeg), .ref 46], w3)) rfl h7).trans <|
    (runs_ck (q' := (79, [.ref 34, .int x1, .int x2, .int x3, .int x4], [.int (w3.1 46 ((w3.1 40 x1.toNatClampNeg).toNatClampNeg))], w3)) rfl h8).trans <|
    (runs_stps (q' := (81, [.ref 34, .int x1, .int x2, .int x3, .int x4], [.int 1000000, .int (w3.1 46 ((w3.1 40 x1.toNatClampNeg).toNatClampNeg))], w3)) 1 rfl).trans <|
    (runs_if_t (a := 89) (b := 84) (L := [.ref 34, .int x1, .int x2, .int x3, .int x4]) (st := []) (w := w3) rfl h9).trans <|
    (runs_stps (q' := (32, [.ref 34, .int x1, .int x2, .int x3, .int (x4 + 1)], [], w3)) 4 rfl).trans <|
    rfl
theorem p_X9_takes__32FFFF_L32 {ex : Ex} {x1 : Int32} {x2 : Int32} {x3 : Int32} {x4 : Int32} {r1 : Int32} {w1 : Wd} {r2 : Int32} {w2 : Wd} {w3 : Wd} {w : Wd} (h1 : ¬ (1 <<< ((w.1 34 15) &&& 31)) ≤ x4) (h2 : ¬ x3 = (-9)) (h3 : ex 136 [.int x4] w = some (some (.int r1), w1)) (h4 : ex 136 [.int x3] w1 = some (some (.int r2), w2)) (h5 : ¬ r2 ≤ r1) (h6 : ex 175 [.ref 34, .int x2, .int x4] w2 = some (none, w3)) (h7 : vp_in x1 5) (h8 : vp_in (w3.1 40 x1.toNatClampNeg) 7776) (h9 : ¬ 1000000 ≤ (w3.1 46 ((w3.1 40 x1.toNatClampNeg).toNatClampNeg))) : runs (T_X9_takes_ ex) (32, [.ref 34, .int x1, .int x2, .int x3, .int x4], [], w) = runs (T_X9_takes_ ex) (32, [.ref 34, .int x1, .int x2, .int x4, .int (x4 + 1)], [], w3) := 
    (runs_stps (q' := (40, [.ref 34, .int x1, .int x2, .int x3, .int x4], [.int (1 <<< ((w.1 34 15) &&& 31)), .int x4], w)) 5 rfl).trans <|
    (runs_if_f (a := 97) (b := 43) (L := [.ref 34, .int x1, .int x2, .int x3, .int x4]) (st := []) (w := w) rfl h1).trans <|
    (runs_stps (q' := (46, [.ref 34, .int x1, .int x2, .int x3, .int x4], [.int (-9), .int x3], w)) 2 rfl).trans <|
    (runs_if_f (a := 61) (b := 49) (L := [.ref 34, .int x1, .int x2, .int x3, .int x4]) (st := []) (w := w) rfl h2).trans <|
    (runs_stps (q' := (51, [.ref 34, .int x1, .int x2, .int x3, .int x4], [.int x4], w)) 1 rfl).trans <|
    (runs_callS (rv := some (.int r1)) (w' := w1) rfl rfl rfl h3).trans <|
    (runs_stps (q' := (55, [.ref 34, .int x1, .int x2, .int x3, .int x4], [.int x3, .int r1], w1)) 1 rfl).trans <|
    (runs_callS (rv := some (.int r2)) (w' := w2) rfl rfl rfl h4).trans <|
    (runs_if_f (a := 91) (b := 61) (L := [.ref 34, .int x1, .int x2, .int x3, .int x4]) (st := []) (w := w2) rfl h5).trans <|
    (runs_stps (q' := (65, [.ref 34, .int x1, .int x2, .int x3, .int x4], [.int x4, .int x2, .ref 34], w2)) 3 rfl).trans <|
    (runs_callV (rv := none) (w' := w3) rfl rfl rfl rfl h6).trans <|
    (runs_stps (q' := (77, [.ref 34, .int x1, .int x2, .int x3, .int x4], [.int x1, .ref 40, .ref 46], w3)) 5 rfl).trans <|
    (runs_ck (q' := (78, [.ref 34, .int x1, .int x2, .int x3, .int x4], [.int (w3.1 40 x1.toNatClampNeg), .ref 46], w3)) rfl h7).trans <|
    (runs_ck (q' := (79, [.ref 34, .int x1, .int x2, .int x3, .int x4], [.int (w3.1 46 ((w3.1 40 x1.toNatClampNeg).toNatClampNeg))], w3)) rfl h8).trans <|
    (runs_stps (q' := (81, [.ref 34, .int x1, .int x2, .int x3, .int x4], [.int 1000000, .int (w3.1 46 ((w3.1 40 x1.toNatClampNeg).toNatClampNeg))], w3)) 1 rfl).trans <|
    (runs_if_f (a := 89) (b := 84) (L := [.ref 34, .int x1, .int x2, .int x3, .int x4]) (st := []) (w := w3) rfl h9).trans <|
    (runs_stps (q' := (32, [.ref 34, .int x1, .int x2, .int x4, .int (x4 + 1)], [], w3)) 5 rfl).trans <|
    rfl
theorem p_X9_spellsIn_0_L4 {ex : Ex} {x1 : Int32} {w : Wd} : runs (T_X9_spellsIn ex) (0, [.ref 34, .int x1, .null, .null], [], w) = runs (T_X9_spellsIn ex) (4, [.ref 34, .int x1, .int 0, .int x1], [], w) := 
    (runs_stps (q' := (4, [.ref 34, .int x1, .int 0, .int x1], [], w)) 4 rfl).trans <|
    rfl
theorem p_X9_spellsIn_4T_R {ex : Ex} {v0 : Value} {v1 : Value} {x2 : Int32} {x3 : Int32} {w : Wd} (h1 : x3 ≤ 0) : runs (T_X9_spellsIn ex) (4, [v0, v1, .int x2, .int x3], [], w) = some (some (.int x2), w) := 
    (runs_stps (q' := (5, [.null, .null, .int x2, .int x3], [.int x3], w)) 1 rfl).trans <|
    (runs_if_t (a := 27) (b := 8) (L := [.null, .null, .int x2, .int x3]) (st := []) (w := w) rfl h1).trans <|
    (runs_stps (q' := (28, [.null, .null, .int x2, .null], [.int x2], w)) 1 rfl).trans <|
    runs_ret rfl
theorem p_X9_spellsIn_4F_L4 {ex : Ex} {v0 : Value} {v1 : Value} {x2 : Int32} {x3 : Int32} {w : Wd} (h1 : ¬ x3 ≤ 0) : runs (T_X9_spellsIn ex) (4, [v0, v1, .int x2, .int x3], [], w) = runs (T_X9_spellsIn ex) (4, [.null, .null, .int (x2 ||| (1 <<< (((x3 - x3 / 6 * 6) - 1) &&& 31))), .int (x3 / 6)], [], w) := 
    (runs_stps (q' := (5, [.null, .null, .int x2, .int x3], [.int x3], w)) 1 rfl).trans <|
    (runs_if_f (a := 27) (b := 8) (L := [.null, .null, .int x2, .int x3]) (st := []) (w := w) rfl h1).trans <|
    (runs_stps (q' := (4, [.null, .null, .int (x2 ||| (1 <<< (((x3 - x3 / 6 * 6) - 1) &&& 31))), .int (x3 / 6)], [], w)) 15 rfl).trans <|
    rfl
theorem p_X9_learn_0T_R {ex : Ex} {x1 : Int32} {x2 : Int32} {r1 : Int32} {w1 : Wd} {w : Wd} (h1 : ex 135 [.int x1, .int 0, .int 1023] (updI w 34 0 0) = some (some (.int r1), w1)) (h2 : r1 = 0) : runs (T_X9_learn ex) (0, [.ref 34, .int x1, .int x2, .null, .null, .null, .null], [], w) = some (some (.int (-1)), w1) := 
    (runs_stps (q' := (10, [.ref 34, .int x1, .int x2, .null, .null, .null, .null], [.int 1023, .int 0, .int x1], updI w 34 0 0)) 6 rfl).trans <|
    (runs_callS (rv := some (.int r1)) (w' := w1) rfl rfl rfl h1).trans <|
    (runs_if_t (a := 25) (b := 16) (L := [.ref 34, .int x1, .int x2, .null, .null, .null, .null]) (st := []) (w := w1) rfl h2).trans <|
    (runs_stps (q' := (26, [.null, .null, .null, .null, .null, .null, .null], [.int (-1)], w1)) 1 rfl).trans <|
    runs_ret rfl
theorem p_X9_learn_0FT_L33 {ex : Ex} {x1 : Int32} {x2 : Int32} {r1 : Int32} {w1 : Wd} {r2 : Int32} {w2 : Wd} {w : Wd} (h1 : ex 135 [.int x1, .int 0, .int 1023] (updI w 34 0 0) = some (some (.int r1), w1)) (h2 : ¬ r1 = 0) (h3 : ex 135 [.int x2, .int 0, .int 1] w1 = some (some (.int r2), w2)) (h4 : ¬ r2 = 0) : runs (T_X9_learn ex) (0, [.ref 34, .int x1, .int x2, .null, .null, .null, .null], [], w) = runs (T_X9_learn ex) (33, [.ref 34, .int x1, .int x2, .int (-9), .int 0, .null, .null], [], w2) := 
    (runs_stps (q' := (10, [.ref 34, .int x1, .int x2, .null, .null, .null, .null], [.int 1023, .int 0, .int x1], updI w 34 0 0)) 6 rfl).trans <|
    (runs_callS (rv := some (.int r1)) (w' := w1) rfl rfl rfl h1).trans <|
    (runs_if_f (a := 25) (b := 16) (L := [.ref 34, .int x1, .int x2, .null, .null, .null, .null]) (st := []) (w := w1) rfl h2).trans <|
    (runs_stps (q' := (19, [.ref 34, .int x1, .int x2, .null, .null, .null, .null], [.int 1, .int 0, .int x2], w1)) 3 rfl).trans <|
    (runs_callS (rv := some (.int r2)) (w' := w2) rfl rfl rfl h3).trans <|
    (runs_if_f (a := 25) (b := 27) (L := [.ref 34, .int x1, .int x2, .null, .null, .null, .null]) (st := []) (w := w2) rfl h4).trans <|
    (runs_stps (q' := (33, [.ref 34, .int x1, .int x2, .int (-9), .int 0, .null, .null], [], w2)) 4 rfl).trans <|
    rfl
theorem p_X9_learn_0FF_R {ex : Ex} {x1 : Int32} {x2 : Int32} {r1 : Int32} {w1 : Wd} {r2 : Int32} {w2 : Wd} {w : Wd} (h1 : ex 135 [.int x1, .int 0, .int 1023] (updI w 34 0 0) = some (some (.int r1), w1)) (h2 : ¬ r1 = 0) (h3 : ex 135 [.int x2, .int 0, .int 1] w1 = some (some (.int r2), w2)) (h4 : r2 = 0) : runs (T_X9_learn ex) (0, [.ref 34, .int x1, .int x2, .null, .null, .null, .null], [], w) = some (some (.int (-1)), w2) := 
    (runs_stps (q' := (10, [.ref 34, .int x1, .int x2, .null, .null, .null, .null], [.int 1023, .int 0, .int x1], updI w 34 0 0)) 6 rfl).trans <|
    (runs_callS (rv := some (.int r1)) (w' := w1) rfl rfl rfl h1).trans <|
    (runs_if_f (a := 25) (b := 16) (L := [.ref 34, .int x1, .int x2, .null, .null, .null, .null]) (st := []) (w := w1) rfl h2).trans <|
    (runs_stps (q' := (19, [.ref 34, .int x1, .int x2, .null, .null, .null, .null], [.int 1, .int 0, .int x2], w1)) 3 rfl).trans <|
    (runs_callS (rv := some (.int r2)) (w' := w2) rfl rfl rfl h3).trans <|
    (runs_if_t (a := 25) (b := 27) (L := [.ref 34, .int x1, .int x2, .null, .null, .null, .null]) (st := []) (w := w2) rfl h4).trans <|
    (runs_stps (q' := (26, [.null, .null, .null, .null, .null, .null, .null], [.int (-1)], w2)) 1 rfl).trans <|
    runs_ret rfl
theorem p_X9_learn_33TT_R {ex : Ex} {x1 : Int32} {x2 : Int32} {x3 : Int32} {x4 : Int32} {v5 : Value} {v6 : Value} {w : Wd} (h1 : 7776 ≤ x4) (h2 : x3 = (-9)) : runs (T_X9_learn ex) (33, [.ref 34, .int x1, .int x2, .int x3, .int x4, v5, v6], [], w) = some (some (.int x3), w) := 
    (runs_stps (q' := (38, [.ref 34, .int x1, .int x2, .int x3, .int x4, .null, .null], [.int 7776, .int x4], w)) 2 rfl).trans <|
    (runs_if_t (a := 130) (b := 41) (L := [.ref 34, .int x1, .int x2, .int x3, .int x4, .null, .null]) (st := []) (w := w) rfl h1).trans <|
    (runs_stps (q' := (133, [.null, .null, .int x2, .int x3, .null, .null, .null], [.int (-9), .int x3], w)) 2 rfl).trans <|
    (runs_if_t (a := 141) (b := 136) (L := [.null, .null, .int x2, .int x3, .null, .null, .null]) (st := []) (w := w) rfl h2).trans <|
    (runs_stps (q' := (149, [.null, .null, .null, .int x3, .null, .null, .null], [.int x3], w)) 2 rfl).trans <|
    runs_ret rfl
theorem p_X9_learn_33TFT_R {ex : Ex} {x1 : Int32} {x2 : Int32} {x3 : Int32} {x4 : Int32} {v5 : Value} {v6 : Value} {r1 : Int32} {w1 : Wd} {w : Wd} (h1 : 7776 ≤ x4) (h2 : ¬ x3 = (-9)) (h3 : ¬ x2 = 1) (h4 : ex 136 [.int x3] w = some (some (.int r1), w1)) : runs (T_X9_learn ex) (33, [.ref 34, .int x1, .int x2, .int x3, .int x4, v5, v6], [], w) = some (some (.int r1), w1) := 
    (runs_stps (q' := (38, [.ref 34, .int x1, .int x2, .int x3, .int x4, .null, .null], [.int 7776, .int x4], w)) 2 rfl).trans <|
    (runs_if_t (a := 130) (b := 41) (L := [.ref 34, .int x1, .int x2, .int x3, .int x4, .null, .null]) (st := []) (w := w) rfl h1).trans <|
    (runs_stps (q' := (133, [.null, .null, .int x2, .int x3, .null, .null, .null], [.int (-9), .int x3], w)) 2 rfl).trans <|
    (runs_if_f (a := 141) (b := 136) (L := [.null, .null, .int x2, .int x3, .null, .null, .null]) (st := []) (w := w) rfl h2).trans <|
    (runs_stps (q' := (138, [.null, .null, .int x2, .int x3, .null, .null, .null], [.int 1, .int x2], w)) 2 rfl).trans <|
    (runs_if_f (a := 141) (b := 145) (L := [.null, .null, .int x2, .int x3, .null, .null, .null]) (st := []) (w := w) rfl h3).trans <|
    (runs_stps (q' := (146, [.null, .null, .null, .int x3, .null, .null, .null], [.int x3], w)) 1 rfl).trans <|
    (runs_callS (rv := some (.int r1)) (w' := w1) rfl rfl rfl h4).trans <|
    runs_ret rfl
theorem p_X9_learn_33TFF_R {ex : Ex} {x1 : Int32} {x2 : Int32} {x3 : Int32} {x4 : Int32} {v5 : Value} {v6 : Value} {w : Wd} (h1 : 7776 ≤ x4) (h2 : ¬ x3 = (-9)) (h3 : x2 = 1) : runs (T_X9_learn ex) (33, [.ref 34, .int x1, .int x2, .int x3, .int x4, v5, v6], [], w) = some (some (.int x3), w) := 
    (runs_stps (q' := (38, [.ref 34, .int x1, .int x2, .int x3, .int x4, .null, .null], [.int 7776, .int x4], w)) 2 rfl).trans <|
    (runs_if_t (a := 130) (b := 41) (L := [.ref 34, .int x1, .int x2, .int x3, .int x4, .null, .null]) (st := []) (w := w) rfl h1).trans <|
    (runs_stps (q' := (133, [.null, .null, .int x2, .int x3, .null, .null, .null], [.int (-9), .int x3], w)) 2 rfl).trans <|
    (runs_if_f (a := 141) (b := 136) (L := [.null, .null, .int x2, .int x3, .null, .null, .null]) (st := []) (w := w) rfl h2).trans <|
    (runs_stps (q' := (138, [.null, .null, .int x2, .int x3, .null, .null, .null], [.int 1, .int x2], w)) 2 rfl).trans <|
    (runs_if_t (a := 141) (b := 145) (L := [.null, .null, .int x2, .int x3, .null, .null, .null]) (st := []) (w := w) rfl h3).trans <|
    (runs_stps (q' := (149, [.null, .null, .null, .int x3, .null, .null, .null], [.int x3], w)) 2 rfl).trans <|
    runs_ret rfl
theorem p_X9_learn_33FT_L33 {ex : Ex} {x1 : Int32} {x2 : Int32} {x3 : Int32} {x4 : Int32} {v5 : Value} {v6 : Value} {w : Wd} (h1 : ¬ 7776 ≤ x4) (h2 : vp_in x4 7776) (h3 : (w.1 47 x4.toNatClampNeg) = 0) : runs (T_X9_learn ex) (33, [.ref 34, .int x1, .int x2, .int x3, .int x4, v5, v6], [], w) = runs (T_X9_learn ex) (33, [.ref 34, .int x1, .int x2, .int x3, .int (x4 + 1), .null, .null], [], w) := 
    (runs_stps (q' := (38, [.ref 34, .int x1, .int x2, .int x3, .int x4, .null, .null], [.int 7776, .int x4], w)) 2 rfl).trans <|
    (runs_if_f (a := 130) (b := 41) (L := [.ref 34, .int x1, .int x2, .int x3, .int x4, .null, .null]) (st := []) (w := w) rfl h1).trans <|
    (runs_stps (q' := (47, [.ref 34, .int x1, .int x2, .int x3, .int x4, .null, .null], [.int x4, .ref 47], w)) 3 rfl).trans <|
    (runs_ck (q' := (48, [.ref 34, .int x1, .int x2, .int x3, .int x4, .null, .null], [.int (w.1 47 x4.toNatClampNeg)], w)) rfl h2).trans <|
    (runs_if_t (a := 124) (b := 51) (L := [.ref 34, .int x1, .int x2, .int x3, .int x4, .null, .null]) (st := []) (w := w) rfl h3).trans <|
    (runs_stps (q' := (33, [.ref 34, .int x1, .int x2, .int x3, .int (x4 + 1), .null, .null], [], w)) 2 rfl).trans <|
    rfl
theorem p_X9_learn_33FFT_L33 {ex : Ex} {x1 : Int32} {x2 : Int32} {x3 : Int32} {x4 : Int32} {v5 : Value} {v6 : Value} {r1 : Int32} {w1 : Wd} {w : Wd} (h1 : ¬ 7776 ≤ x4) (h2 : vp_in x4 7776) (h3 : ¬ (w.1 47 x4.toNatClampNeg) = 0) (h4 : ex 156 [.ref 34, .int x4] w = some (some (.int r1), w1)) (h5 : ¬ r1 = x1) : runs (T_X9_learn ex) (33, [.ref 34, .int x1, .int x2, .int x3, .int x4, v5, v6], [], w) = runs (T_X9_learn ex) (33, [.ref 34, .int x1, .int x2, .int x3, .int (x4 + 1), .null, .null], [], w1) := 
    (runs_stps (q' := (38, [.ref 34, .int x1, .int x2, .int x3, .int x4, .null, .null], [.int 7776, .int x4], w)) 2 rfl).trans <|
    (runs_if_f (a := 130) (b := 41) (L := [.ref 34, .int x1, .int x2, .int x3, .int x4, .null, .null]) (st := []) (w := w) rfl h1).trans <|
    (runs_stps (q' := (47, [.ref 34, .int x1, .int x2, .int x3, .int x4, .null, .null], [.int x4, .ref 47], w)) 3 rfl).trans <|
    (runs_ck (q' := (48, [.ref 34, .int x1, .int x2, .int x3, .int x4, .null, .null], [.int (w.1 47 x4.toNatClampNeg)], w)) rfl h2).trans <|
    (runs_if_f (a := 124) (b := 51) (L := [.ref 34, .int x1, .int x2, .int x3, .int x4, .null, .null]) (st := []) (w := w) rfl h3).trans <|
    (runs_stps (q' := (54, [.ref 34, .int x1, .int x2, .int x3, .int x4, .null, .null], [.int x4, .ref 34], w)) 2 rfl).trans <|
    (runs_callV (rv := some (.int r1)) (w' := w1) rfl rfl rfl rfl h4).trans <|
    (runs_stps (q' := (58, [.ref 34, .int x1, .int x2, .int x3, .int x4, .null, .null], [.int x1, .int r1], w1)) 1 rfl).trans <|
    (runs_if_f (a := 61) (b := 124) (L := [.ref 34, .int x1, .int x2, .int x3, .int x4, .null, .null]) (st := []) (w := w1) rfl h5).trans <|
    (runs_stps (q' := (33, [.ref 34, .int x1, .int x2, .int x3, .int (x4 + 1), .null, .null], [], w1)) 2 rfl).trans <|
    rfl
theorem p_X9_learn_33FFFTT_L33 {ex : Ex} {x1 : Int32} {x2 : Int32} {x3 : Int32} {x4 : Int32} {v5 : Value} {v6 : Value} {r1 : Int32} {w1 : Wd} {r2 : Int32} {w2 : Wd} {w : Wd} (h1 : ¬ 7776 ≤ x4) (h2 : vp_in x4 7776) (h3 : ¬ (w.1 47 x4.toNatClampNeg) = 0) (h4 : ex 156 [.ref 34, .int x4] w = some (some (.int r1), w1)) (h5 : r1 = x1) (h6 : ex 178 [.ref 34, .int x4] w1 = some (some (.int r2), w2)) (h7 : x3 = (-9)) (h8 : (1 : Int32) = 0) : runs (T_X9_learn ex) (33, [.ref 34, .int x1, .int x2, .int x3, .int x4, v5, v6], [], w) = runs (T_X9_learn ex) (33, [.ref 34, .int x1, .int x2, .int x3, .int (x4 + 1), .null, .null], [], w2) := 
    (runs_stps (q' := (38, [.ref 34, .int x1, .int x2, .int x3, .int x4, .null, .null], [.int 7776, .int x4], w)) 2 rfl).trans <|
    (runs_if_f (a := 130) (b := 41) (L := [.ref 34, .int x1, .int x2, .int x3, .int x4, .null, .null]) (st := []) (w := w) rfl h1).trans <|
    (runs_stps (q' := (47, [.ref 34, .int x1, .int x2, .int x3, .int x4, .null, .null], [.int x4, .ref 47], w)) 3 rfl).trans <|
    (runs_ck (q' := (48, [.ref 34, .int x1, .int x2, .int x3, .int x4, .null, .null], [.int (w.1 47 x4.toNatClampNeg)], w)) rfl h2).trans <|
    (runs_if_f (a := 124) (b := 51) (L := [.ref 34, .int x1, .int x2, .int x3, .int x4, .null, .null]) (st := []) (w := w) rfl h3).trans <|
    (runs_stps (q' := (54, [.ref 34, .int x1, .int x2, .int x3, .int x4, .null, .null], [.int x4, .ref 34], w)) 2 rfl).trans <|
    (runs_callV (rv := some (.int r1)) (w' := w1) rfl rfl rfl rfl h4).trans <|
    (runs_stps (q' := (58, [.ref 34, .int x1, .int x2, .int x3, .int x4, .null, .null], [.int x1, .int r1], w1)) 1 rfl).trans <|
    (runs_if_t (a := 61) (b := 124) (L := [.ref 34, .int x1, .int x2, .int x3, .int x4, .null, .null]) (st := []) (w := w1) rfl h5).trans <|
    (runs_stps (q' := (64, [.ref 34, .int x1, .int x2, .int x3, .int x4, .null, .null], [.int x4, .ref 34], w1)) 2 rfl).trans <|
    (runs_callV (rv := some (.int r2)) (w' := w2) rfl rfl rfl rfl h6).trans <|
    (runs_stps (q' := (72, [.ref 34, .int x1, .int x2, .int x3, .int x4, .int r2, .null], [.int (-9), .int x3], w2)) 3 rfl).trans <|
    (runs_if_t (a := 105) (b := 75) (L := [.ref 34, .int x1, .int x2, .int x3, .int x4, .int r2, .null]) (st := []) (w := w2) rfl h7).trans <|
    (runs_stps (q' := (114, [.ref 34, .int x1, .int x2, .int x3, .int x4, .int r2, .int 1], [.int 1], w2)) 4 rfl).trans <|
    (runs_if_t (a := 122) (b := 117) (L := [.ref 34, .int x1, .int x2, .int x3, .int x4, .int r2, .int 1]) (st := []) (w := w2) rfl h8).trans <|
    (runs_stps (q' := (33, [.ref 34, .int x1, .int x2, .int x3, .int (x4 + 1), .null, .null], [], w2)) 4 rfl).trans <|
    rfl
theorem p_X9_learn_33FFFTF_L33 {ex : Ex} {x1 : Int32} {x2 : Int32} {x3 : Int32} {x4 : Int32} {v5 : Value} {v6 : Value} {r1 : Int32} {w1 : Wd} {r2 : Int32} {w2 : Wd} {w : Wd} (h1 : ¬ 7776 ≤ x4) (h2 : vp_in x4 7776) (h3 : ¬ (w.1 47 x4.toNatClampNeg) = 0) (h4 : ex 156 [.ref 34, .int x4] w = some (some (.int r1), w1)) (h5 : r1 = x1) (h6 : ex 178 [.ref 34, .int x4] w1 = some (some (.int r2), w2)) (h7 : x3 = (-9)) (h8 : ¬ (1 : Int32) = 0) : runs (T_X9_learn ex) (33, [.ref 34, .int x1, .int x2, .int x3, .int x4, v5, v6], [], w) = runs (T_X9_learn ex) (33, [.ref 34, .int x1, .int x2, .int r2, .int (x4 + 1), .null, .null], [], w2) := 
    (runs_stps (q' := (38, [.ref 34, .int x1, .int x2, .int x3, .int x4, .null, .null], [.int 7776, .int x4], w)) 2 rfl).trans <|
    (runs_if_f (a := 130) (b := 41) (L := [.ref 34, .int x1, .int x2, .int x3, .int x4, .null, .null]) (st := []) (w := w) rfl h1).trans <|
    (runs_stps (q' := (47, [.ref 34, .int x1, .int x2, .int x3, .int x4, .null, .null], [.int x4, .ref 47], w)) 3 rfl).trans <|
    (runs_ck (q' := (48, [.ref 34, .int x1, .int x2, .int x3, .int x4, .null, .null], [.int (w.1 47 x4.toNatClampNeg)], w)) rfl h2).trans <|
    (runs_if_f (a := 124) (b := 51) (L := [.ref 34, .int x1, .int x2, .int x3, .int x4, .null, .null]) (st := []) (w := w) rfl h3).trans <|
    (runs_stps (q' := (54, [.ref 34, .int x1, .int x2, .int x3, .int x4, .null, .null], [.int x4, .ref 34], w)) 2 rfl).trans <|
    (runs_callV (rv := some (.int r1)) (w' := w1) rfl rfl rfl rfl h4).trans <|
    (runs_stps (q' := (58, [.ref 34, .int x1, .int x2, .int x3, .int x4, .null, .null], [.int x1, .int r1], w1)) 1 rfl).trans <|
    (runs_if_t (a := 61) (b := 124) (L := [.ref 34, .int x1, .int x2, .int x3, .int x4, .null, .null]) (st := []) (w := w1) rfl h5).trans <|
    (runs_stps (q' := (64, [.ref 34, .int x1, .int x2, .int x3, .int x4, .null, .null], [.int x4, .ref 34], w1)) 2 rfl).trans <|
    (runs_callV (rv := some (.int r2)) (w' := w2) rfl rfl rfl rfl h6).trans <|
    (runs_stps (q' := (72, [.ref 34, .int x1, .int x2, .int x3, .int x4, .int r2, .null], [.int (-9), .int x3], w2)) 3 rfl).trans <|
    (runs_if_t (a := 105) (b := 75) (L := [.ref 34, .int x1, .int x2, .int x3, .int x4, .int r2, .null]) (st := []) (w := w2) rfl h7).trans <|
    (runs_stps (q' := (114, [.ref 34, .int x1, .int x2, .int x3, .int x4, .int r2, .int 1], [.int 1], w2)) 4 rfl).trans <|
    (runs_if_f (a := 122) (b := 117) (L := [.ref 34, .int x1, .int x2, .int x3, .int x4, .int r2, .int 1]) (st := []) (w := w2) rfl h8).trans <|
    (runs_stps (q' := (33, [.ref 34, .int x1, .int x2, .int r2, .int (x4 + 1), .null, .null], [], w2)) 5 rfl).trans <|
    rfl
theorem p_X9_learn_33FFFFTT_L33 {ex : Ex} {x1 : Int32} {x2 : Int32} {x3 : Int32} {x4 : Int32} {v5 : Value} {v6 : Value} {r1 : Int32} {w1 : Wd} {r2 : Int32} {w2 : Wd} {r3 : Int32} {w3 : Wd} {r4 : Int32} {w4 : Wd} {w : Wd} (h1 : ¬ 7776 ≤ x4) (h2 : vp_in x4 7776) (h3 : ¬ (w.1 47 x4.toNatClampNeg) = 0) (h4 : ex 156 [.ref 34, .int x4] w = some (some (.int r1), w1)) (h5 : r1 = x1) (h6 : ex 178 [.ref 34, .int x4] w1 = some (some (.int r2), w2)) (h7 : ¬ x3 = (-9)) (h8 : ex 136 [.int r2] w2 = some (some (.int r3), w3)) (h9 : ex 136 [.int x3] w3 = some (some (.int r4), w4)) (h10 : r3 < r4) (h11 : (1 : Int32) = 0) : runs (T_X9_learn ex) (33, [.ref 34, .int x1, .int x2, .int x3, .int x4, v5, v6], [], w) = runs (T_X9_learn ex) (33, [.ref 34, .int x1, .int x2, .int x3, .int (x4 + 1), .null, .null], [], w4) := 
    (runs_stps (q' := (38, [.ref 34, .int x1, .int x2, .int x3, .int x4, .null, .null], [.int 7776, .int x4], w)) 2 rfl).trans <|
    (runs_if_f (a := 130) (b := 41) (L := [.ref 34, .int x1, .int x2, .int x3, .int x4, .null, .null]) (st := []) (w := w) rfl h1).trans <|
    (runs_stps (q' := (47, [.ref 34, .int x1, .int x2, .int x3, .int x4, .null, .null], [.int x4, .ref 47], w)) 3 rfl).trans <|
    (runs_ck (q' := (48, [.ref 34, .int x1, .int x2, .int x3, .int x4, .null, .null], [.int (w.1 47 x4.toNatClampNeg)], w)) rfl h2).trans <|
    (runs_if_f (a := 124) (b := 51) (L := [.ref 34, .int x1, .int x2, .int x3, .int x4, .null, .null]) (st := []) (w := w) rfl h3).trans <|
    (runs_stps (q' := (54, [.ref 34, .int x1, .int x2, .int x3, .int x4, .null, .null], [.int x4, .ref 34], w)) 2 rfl).trans <|
    (runs_callV (rv := some (.int r1)) (w' := w1) rfl rfl rfl rfl h4).trans <|
    (runs_stps (q' := (58, [.ref 34, .int x1, .int x2, .int x3, .int x4, .null, .null], [.int x1, .int r1], w1)) 1 rfl).trans <|
    (runs_if_t (a := 61) (b := 124) (L := [.ref 34, .int x1, .int x2, .int x3, .int x4, .null, .null]) (st := []) (w := w1) rfl h5).trans <|
    (runs_stps (q' := (64, [.ref 34, .int x1, .int x2, .int x3, .int x4, .null, .null], [.int x4, .ref 34], w1)) 2 rfl).trans <|
    (runs_callV (rv := some (.int r2)) (w' := w2) rfl rfl rfl rfl h6).trans <|
    (runs_stps (q' := (72, [.ref 34, .int x1, .int x2, .int x3, .int x4, .int r2, .null], [.int (-9), .int x3], w2)) 3 rfl).trans <|
    (runs_if_f (a := 105) (b := 75) (L := [.ref 34, .int x1, .int x2, .int x3, .int x4, .int r2, .null]) (st := []) (w := w2) rfl h7).trans <|
    (runs_stps (q' := (77, [.ref 34, .int x1, .int x2, .int x3, .int x4, .int r2, .null], [.int r2], w2)) 1 rfl).trans <|
    (runs_callS (rv := some (.int r3)) (w' := w3) rfl rfl rfl h8).trans <|
    (runs_stps (q' := (81, [.ref 34, .int x1, .int x2, .int x3, .int x4, .int r2, .null], [.int x3, .int r3], w3)) 1 rfl).trans <|
    (runs_callS (rv := some (.int r4)) (w' := w4) rfl rfl rfl h9).trans <|
    (runs_if_t (a := 105) (b := 87) (L := [.ref 34, .int x1, .int x2, .int x3, .int x4, .int r2, .null]) (st := []) (w := w4) rfl h10).trans <|
    (runs_stps (q' := (114, [.ref 34, .int x1, .int x2, .int x3, .int x4, .int r2, .int 1], [.int 1], w4)) 4 rfl).trans <|
    (runs_if_t (a := 122) (b := 117) (L := [.ref 34, .int x1, .int x2, .int x3, .int x4, .int r2, .int 1]) (st := []) (w := w4) rfl h11).trans <|
    (runs_stps (q' := (33, [.ref 34, .int x1, .int x2, .int x3, .int (x4 + 1), .null, .null], [], w4)) 4 rfl).trans <|
    rfl
theorem p_X9_learn_33FFFFTF_L33 {ex : Ex} {x1 : Int32} {x2 : Int32} {x3 : Int32} {x4 : Int32} {v5 : Value} {v6 : Value} {r1 : Int32} {w1 : Wd} {r2 : Int32} {w2 : Wd} {r3 : Int32} {w3 : Wd} {r4 : Int32} {w4 : Wd} {w : Wd} (h1 : ¬ 7776 ≤ x4) (h2 : vp_in x4 7776) (h3 : ¬ (w.1 47 x4.toNatClampNeg) = 0) (h4 : ex 156 [.ref 34, .int x4] w = some (some (.int r1), w1)) (h5 : r1 = x1) (h6 : ex 178 [.ref 34, .int x4] w1 = some (some (.int r2), w2)) (h7 : ¬ x3 = (-9)) (h8 : ex 136 [.int r2] w2 = some (some (.int r3), w3)) (h9 : ex 136 [.int x3] w3 = some (some (.int r4), w4)) (h10 : r3 < r4) (h11 : ¬ (1 : Int32) = 0) : runs (T_X9_learn ex) (33, [.ref 34, .int x1, .int x2, .int x3, .int x4, v5, v6], [], w) = runs (T_X9_learn ex) (33, [.ref 34, .int x1, .int x2, .int r2, .int (x4 + 1), .null, .null], [], w4) := 
    (runs_stps (q' := (38, [.ref 34, .int x1, .int x2, .int x3, .int x4, .null, .null], [.int 7776, .int x4], w)) 2 rfl).trans <|
    (runs_if_f (a := 130) (b := 41) (L := [.ref 34, .int x1, .int x2, .int x3, .int x4, .null, .null]) (st := []) (w := w) rfl h1).trans <|
    (runs_stps (q' := (47, [.ref 34, .int x1, .int x2, .int x3, .int x4, .null, .null], [.int x4, .ref 47], w)) 3 rfl).trans <|
    (runs_ck (q' := (48, [.ref 34, .int x1, .int x2, .int x3, .int x4, .null, .null], [.int (w.1 47 x4.toNatClampNeg)], w)) rfl h2).trans <|
    (runs_if_f (a := 124) (b := 51) (L := [.ref 34, .int x1, .int x2, .int x3, .int x4, .null, .null]) (st := []) (w := w) rfl h3).trans <|
    (runs_stps (q' := (54, [.ref 34, .int x1, .int x2, .int x3, .int x4, .null, .null], [.int x4, .ref 34], w)) 2 rfl).trans <|
    (runs_callV (rv := some (.int r1)) (w' := w1) rfl rfl rfl rfl h4).trans <|
    (runs_stps (q' := (58, [.ref 34, .int x1, .int x2, .int x3, .int x4, .null, .null], [.int x1, .int r1], w1)) 1 rfl).trans <|
    (runs_if_t (a := 61) (b := 124) (L := [.ref 34, .int x1, .int x2, .int x3, .int x4, .null, .null]) (st := []) (w := w1) rfl h5).trans <|
    (runs_stps (q' := (64, [.ref 34, .int x1, .int x2, .int x3, .int x4, .null, .null], [.int x4, .ref 34], w1)) 2 rfl).trans <|
    (runs_callV (rv := some (.int r2)) (w' := w2) rfl rfl rfl rfl h6).trans <|
    (runs_stps (q' := (72, [.ref 34, .int x1, .int x2, .int x3, .int x4, .int r2, .null], [.int (-9), .int x3], w2)) 3 rfl).trans <|
    (runs_if_f (a := 105) (b := 75) (L := [.ref 34, .int x1, .int x2, .int x3, .int x4, .int r2, .null]) (st := []) (w := w2) rfl h7).trans <|
    (runs_stps (q' := (77, [.ref 34, .int x1, .int x2, .int x3, .int x4, .int r2, .null], [.int r2], w2)) 1 rfl).trans <|
    (runs_callS (rv := some (.int r3)) (w' := w3) rfl rfl rfl h8).trans <|
    (runs_stps (q' := (81, [.ref 34, .int x1, .int x2, .int x3, .int x4, .int r2, .null], [.int x3, .int r3], w3)) 1 rfl).trans <|
    (runs_callS (rv := some (.int r4)) (w' := w4) rfl rfl rfl h9).trans <|
    (runs_if_t (a := 105) (b := 87) (L := [.ref 34, .int x1, .int x2, .int x3, .int x4, .int r2, .null]) (st := []) (w := w4) rfl h10).trans <|
    (runs_stps (q' := (114, [.ref 34, .int x1, .int x2, .int x3, .int x4, .int r2, .int 1], [.int 1], w4)) 4 rfl).trans <|
    (runs_if_f (a := 122) (b := 117) (L := [.ref 34, .int x1, .int x2, .int x3, .int x4, .int r2, .int 1]) (st := []) (w := w4) rfl h11).trans <|
    (runs_stps (q' := (33, [.ref 34, .int x1, .int x2, .int r2, .int (x4 + 1), .null, .null], [], w4)) 5 rfl).trans <|
    rfl
theorem p_X9_learn_33FFFFFTT_L33 {ex : Ex} {x1 : Int32} {x2 : Int32} {x3 : Int32} {x4 : Int32} {v5 : Value} {v6 : Value} {r1 : Int32} {w1 : Wd} {r2 : Int32} {w2 : Wd} {r3 : Int32} {w3 : Wd} {r4 : Int32} {w4 : Wd} {r5 : Int32} {w5 : Wd} {r6 : Int32} {w6 : Wd} {w : Wd} (h1 : ¬ 7776 ≤ x4) (h2 : vp_in x4 7776) (h3 : ¬ (w.1 47 x4.toNatClampNeg) = 0) (h4 : ex 156 [.ref 34, .int x4] w = some (some (.int r1), w1)) (h5 : r1 = x1) (h6 : ex 178 [.ref 34, .int x4] w1 = some (some (.int r2), w2)) (h7 : ¬ x3 = (-9)) (h8 : ex 136 [.int r2] w2 = some (some (.int r3), w3)) (h9 : ex 136 [.int x3] w3 = some (some (.int r4), w4)) (h10 : ¬ r3 < r4) (h11 : ex 136 [.int r2] w4 = some (some (.int r5), w5)) (h12 : ex 136 [.int x3] w5 = some (some (.int r6), w6)) (h13 : ¬ r5 = r6) (h14 : (0 : Int32) = 0) : runs (T_X9_learn ex) (33, [.ref 34, .int x1, .int x2, .int x3, .int x4, v5, v6], [], w) = runs (T_X9_learn ex) (33, [.ref 34, .int x1, .int x2, .int x3, .int (x4 + 1), .null, .null], [], w6) := 
    (runs_stps (q' := (38, [.ref 34, .int x1, .int x2, .int x3, .int x4, .null, .null], [.int 7776, .int x4], w)) 2 rfl).trans <|
    (runs_if_f (a := 130) (b := 41) (L := [.ref 34, .int x1, .int x2, .int x3, .int x4, .null, .null]) (st := []) (w := w) rfl h1).trans <|
    (runs_stps (q' := (47, [.ref 34, .int x1, .int x2, .int x3, .int x4, .null, .null], [.int x4, .ref 47], w)) 3 rfl).trans <|
    (runs_ck (q' := (48, [.ref 34, .int x1, .int x2, .int x3, .int x4, .null, .null], [.int (w.1 47 x4.toNatClampNeg)], w)) rfl h2).trans <|
    (runs_if_f (a := 124) (b := 51) (L := [.ref 34, .int x1, .int x2, .int x3, .int x4, .null, .null]) (st := []) (w := w) rfl h3).trans <|
    (runs_stps (q' := (54, [.ref 34, .int x1, .int x2, .int x3, .int x4, .null, .null], [.int x4, .ref 34], w)) 2 rfl).trans <|
    (runs_callV (rv := some (.int r1)) (w' := w1) rfl rfl rfl rfl h4).trans <|
    (runs_stps (q' := (58, [.ref 34, .int x1, .int x2, .int x3, .int x4, .null, .null], [.int x1, .int r1], w1)) 1 rfl).trans <|
    (runs_if_t (a := 61) (b := 124) (L := [.ref 34, .int x1, .int x2, .int x3, .int x4, .null, .null]) (st := []) (w := w1) rfl h5).trans <|
    (runs_stps (q' := (64, [.ref 34, .int x1, .int x2, .int x3, .int x4, .null, .null], [.int x4, .ref 34], w1)) 2 rfl).trans <|
    (runs_callV (rv := some (.int r2)) (w' := w2) rfl rfl rfl rfl h6).trans <|
    (runs_stps (q' := (72, [.ref 34, .int x1, .int x2, .int x3, .int x4, .int r2, .null], [.int (-9), .int x3], w2)) 3 rfl).trans <|
    (runs_if_f (a := 105) (b := 75) (L := [.ref 34, .int x1, .int x2, .int x3, .int x4, .int r2, .null]) (st := []) (w := w2) rfl h7).trans <|
    (runs_stps (q' := (77, [.ref 34, .int x1, .int x2, .int x3, .int x4, .int r2, .null], [.int r2], w2)) 1 rfl).trans <|
    (runs_callS (rv := some (.int r3)) (w' := w3) rfl rfl rfl h8).trans <|
    (runs_stps (q' := (81, [.ref 34, .int x1, .int x2, .int x3, .int x4, .int r2, .null], [.int x3, .int r3], w3)) 1 rfl).trans <|
    (runs_callS (rv := some (.int r4)) (w' := w4) rfl rfl rfl h9).trans <|
    (runs_if_f (a := 105) (b := 87) (L := [.ref 34, .int x1, .int x2, .int x3, .int x4, .int r2, .null]) (st := []) (w := w4) rfl h10).trans <|
    (runs_stps (q' := (89, [.ref 34, .int x1, .int x2, .int x3, .int x4, .int r2, .null], [.int r2], w4)) 1 rfl).trans <|
    (runs_callS (rv := some (.int r5)) (w' := w5) rfl rfl rfl h11).trans <|
    (runs_stps (q' := (93, [.ref 34, .int x1, .int x2, .int x3, .int x4, .int r2, .null], [.int x3, .int r5], w5)) 1 rfl).trans <|
    (runs_callS (rv := some (.int r6)) (w' := w6) rfl rfl rfl h12).trans <|
    (runs_if_f (a := 99) (b := 109) (L := [.ref 34, .int x1, .int x2, .int x3, .int x4, .int r2, .null]) (st := []) (w := w6) rfl h13).trans <|
    (runs_stps (q' := (114, [.ref 34, .int x1, .int x2, .int x3, .int x4, .int r2, .int 0], [.int 0], w6)) 3 rfl).trans <|
    (runs_if_t (a := 122) (b := 117) (L := [.ref 34, .int x1, .int x2, .int x3, .int x4, .int r2, .int 0]) (st := []) (w := w6) rfl h14).trans <|
    (runs_stps (q' := (33, [.ref 34, .int x1, .int x2, .int x3, .int (x4 + 1), .null, .null], [], w6)) 4 rfl).trans <|
    rfl
theorem p_X9_learn_33FFFFFTF_L33 {ex : Ex} {x1 : Int32} {x2 : Int32} {x3 : Int32} {x4 : Int32} {v5 : Value} {v6 : Value} {r1 : Int32} {w1 : Wd} {r2 : Int32} {w2 : Wd} {r3 : Int32} {w3 : Wd} {r4 : Int32} {w4 : Wd} {r5 : Int32} {w5 : Wd} {r6 : Int32} {w6 : Wd} {w : Wd} (h1 : ¬ 7776 ≤ x4) (h2 : vp_in x4 7776) (h3 : ¬ (w.1 47 x4.toNatClampNeg) = 0) (h4 : ex 156 [.ref 34, .int x4] w = some (some (.int r1), w1)) (h5 : r1 = x1) (h6 : ex 178 [.ref 34, .int x4] w1 = some (some (.int r2), w2)) (h7 : ¬ x3 = (-9)) (h8 : ex 136 [.int r2] w2 = some (some (.int r3), w3)) (h9 : ex 136 [.int x3] w3 = some (some (.int r4), w4)) (h10 : ¬ r3 < r4) (h11 : ex 136 [.int r2] w4 = some (some (.int r5), w5)) (h12 : ex 136 [.int x3] w5 = some (some (.int r6), w6)) (h13 : ¬ r5 = r6) (h14 : ¬ (0 : Int32) = 0) : runs (T_X9_learn ex) (33, [.ref 34, .int x1, .int x2, .int x3, .int x4, v5, v6], [], w) = runs (T_X9_learn ex) (33, [.ref 34, .int x1, .int x2, .int r2, .int (x4 + 1), .null, .null], [], w6) := 
    (runs_stps (q' := (38, [.ref 34, .int x1, .int x2, .int x3, .int x4, .null, .null], [.int 7776, .int x4], w)) 2 rfl).trans <|
    (runs_if_f (a := 130) (b := 41) (L := [.ref 34, .int x1, .int x2, .int x3, .int x4, .null, .null]) (st := []) (w := w) rfl h1).trans <|
    (runs_stps (q' := (47, [.ref 34, .int x1, .int x2, .int x3, .int x4, .null, .null], [.int x4, .ref 47], w)) 3 rfl).trans <|
    (runs_ck (q' := (48, [.ref 34, .int x1, .int x2, .int x3, .int x4, .null, .null], [.int (w.1 47 x4.toNatClampNeg)], w)) rfl h2).trans <|
    (runs_if_f (a := 124) (b := 51) (L := [.ref 34, .int x1, .int x2, .int x3, .int x4, .null, .null]) (st := []) (w := w) rfl h3).trans <|
    (runs_stps (q' := (54, [.ref 34, .int x1, .int x2, .int x3, .int x4, .null, .null], [.int x4, .ref 34], w)) 2 rfl).trans <|
    (runs_callV (rv := some (.int r1)) (w' := w1) rfl rfl rfl rfl h4).trans <|
    (runs_stps (q' := (58, [.ref 34, .int x1, .int x2, .int x3, .int x4, .null, .null], [.int x1, .int r1], w1)) 1 rfl).trans <|
    (runs_if_t (a := 61) (b := 124) (L := [.ref 34, .int x1, .int x2, .int x3, .int x4, .null, .null]) (st := []) (w := w1) rfl h5).trans <|
    (runs_stps (q' := (64, [.ref 34, .int x1, .int x2, .int x3, .int x4, .null, .null], [.int x4, .ref 34], w1)) 2 rfl).trans <|
    (runs_callV (rv := some (.int r2)) (w' := w2) rfl rfl rfl rfl h6).trans <|
    (runs_stps (q' := (72, [.ref 34, .int x1, .int x2, .int x3, .int x4, .int r2, .null], [.int (-9), .int x3], w2)) 3 rfl).trans <|
    (runs_if_f (a := 105) (b := 75) (L := [.ref 34, .int x1, .int x2, .int x3, .int x4, .int r2, .null]) (st := []) (w := w2) rfl h7).trans <|
    (runs_stps (q' := (77, [.ref 34, .int x1, .int x2, .int x3, .int x4, .int r2, .null], [.int r2], w2)) 1 rfl).trans <|
    (runs_callS (rv := some (.int r3)) (w' := w3) rfl rfl rfl h8).trans <|
    (runs_stps (q' := (81, [.ref 34, .int x1, .int x2, .int x3, .int x4, .int r2, .null], [.int x3, .int r3], w3)) 1 rfl).trans <|
    (runs_callS (rv := some (.int r4)) (w' := w4) rfl rfl rfl h9).trans <|
    (runs_if_f (a := 105) (b := 87) (L := [.ref 34, .int x1, .int x2, .int x3, .int x4, .int r2, .null]) (st := []) (w := w4) rfl h10).trans <|
    (runs_stps (q' := (89, [.ref 34, .int x1, .int x2, .int x3, .int x4, .int r2, .null], [.int r2], w4)) 1 rfl).trans <|
    (runs_callS (rv := some (.int r5)) (w' := w5) rfl rfl rfl h11).trans <|
    (runs_stps (q' := (93, [.ref 34, .int x1, .int x2, .int x3, .int x4, .int r2, .null], [.int x3, .int r5], w5)) 1 rfl).trans <|
    (runs_callS (rv := some (.int r6)) (w' := w6) rfl rfl rfl h12).trans <|
    (runs_if_f (a := 99) (b := 109) (L := [.ref 34, .int x1, .int x2, .int x3, .int x4, .int r2, .null]) (st := []) (w := w6) rfl h13).trans <|
    (runs_stps (q' := (114, [.ref 34, .int x1, .int x2, .int x3, .int x4, .int r2, .int 0], [.int 0], w6)) 3 rfl).trans <|
    (runs_if_f (a := 122) (b := 117) (L := [.ref 34, .int x1, .int x2, .int x3, .int x4, .int r2, .int 0]) (st := []) (w := w6) rfl h14).trans <|
    (runs_stps (q' := (33, [.ref 34, .int x1, .int x2, .int r2, .int (x4 + 1), .null, .null], [], w6)) 5 rfl).trans <|
    rfl
theorem p_X9_learn_33FFFFFFTT_L33 {ex : Ex} {x1 : Int32} {x2 : Int32} {x3 : Int32} {x4 : Int32} {v5 : Value} {v6 : Value} {r1 : Int32} {w1 : Wd} {r2 : Int32} {w2 : Wd} {r3 : Int32} {w3 : Wd} {r4 : Int32} {w4 : Wd} {r5 : Int32} {w5 : Wd} {r6 : Int32} {w6 : Wd} {w : Wd} (h1 : ¬ 7776 ≤ x4) (h2 : vp_in x4 7776) (h3 : ¬ (w.1 47 x4.toNatClampNeg) = 0) (h4 : ex 156 [.ref 34, .int x4] w = some (some (.int r1), w1)) (h5 : r1 = x1) (h6 : ex 178 [.ref 34, .int x4] w1 = some (some (.int r2), w2)) (h7 : ¬ x3 = (-9)) (h8 : ex 136 [.int r2] w2 = some (some (.int r3), w3)) (h9 : ex 136 [.int x3] w3 = some (some (.int r4), w4)) (h10 : ¬ r3 < r4) (h11 : ex 136 [.int r2] w4 = some (some (.int r5), w5)) (h12 : ex 136 [.int x3] w5 = some (some (.int r6), w6)) (h13 : r5 = r6) (h14 : x3 ≤ r2) (h15 : (0 : Int32) = 0) : runs (T_X9_learn ex) (33, [.ref 34, .int x1, .int x2, .int x3, .int x4, v5, v6], [], w) = runs (T_X9_learn ex) (33, [.ref 34, .int x1, .int x2, .int x3, .int (x4 + 1), .null, .null], [], w6) := 
    (runs_stps (q' := (38, [.ref 34, .int x1, .int x2, .int x3, .int x4, .null, .null], [.int 7776, .int x4], w)) 2 rfl).trans <|
    (runs_if_f (a := 130) (b := 41) (L := [.ref 34, .int x1, .int x2, .int x3, .int x4, .null, .null]) (st := []) (w := w) rfl h1).trans <|
    (runs_stps (q' := (47, [.ref 34, .int x1, .int x2, .int x3, .int x4, .null, .null], [.int x4, .ref 47], w)) 3 rfl).trans <|
    (runs_ck (q' := (48, [.ref 34, .int x1, .int x2, .int x3, .int x4, .null, .null], [.int (w.1 47 x4.toNatClampNeg)], w)) rfl h2).trans <|
    (runs_if_f (a := 124) (b := 51) (L := [.ref 34, .int x1, .int x2, .int x3, .int x4, .null, .null]) (st := []) (w := w) rfl h3).trans <|
    (runs_stps (q' := (54, [.ref 34, .int x1, .int x2, .int x3, .int x4, .null, .null], [.int x4, .ref 34], w)) 2 rfl).trans <|
    (runs_callV (rv := some (.int r1)) (w' := w1) rfl rfl rfl rfl h4).trans <|
    (runs_stps (q' := (58, [.ref 34, .int x1, .int x2, .int x3, .int x4, .null, .null], [.int x1, .int r1], w1)) 1 rfl).trans <|
    (runs_if_t (a := 61) (b := 124) (L := [.ref 34, .int x1, .int x2, .int x3, .int x4, .null, .null]) (st := []) (w := w1) rfl h5).trans <|
    (runs_stps (q' := (64, [.ref 34, .int x1, .int x2, .int x3, .int x4, .null, .null], [.int x4, .ref 34], w1)) 2 rfl).trans <|
    (runs_callV (rv := some (.int r2)) (w' := w2) rfl rfl rfl rfl h6).trans <|
    (runs_stps (q' := (72, [.ref 34, .int x1, .int x2, .int x3, .int x4, .int r2, .null], [.int (-9), .int x3], w2)) 3 rfl).trans <|
    (runs_if_f (a := 105) (b := 75) (L := [.ref 34, .int x1, .int x2, .int x3, .int x4, .int r2, .null]) (st := []) (w := w2) rfl h7).trans <|
    (runs_stps (q' := (77, [.ref 34, .int x1, .int x2, .int x3, .int x4, .int r2, .null], [.int r2], w2)) 1 rfl).trans <|
    (runs_callS (rv := some (.int r3)) (w' := w3) rfl rfl rfl h8).trans <|
    (runs_stps (q' := (81, [.ref 34, .int x1, .int x2, .int x3, .int x4, .int r2, .null], [.int x3, .int r3], w3)) 1 rfl).trans <|
    (runs_callS (rv := some (.int r4)) (w' := w4) rfl rfl rfl h9).trans <|
    (runs_if_f (a := 105) (b := 87) (L := [.ref 34, .int x1, .int x2, .int x3, .int x4, .int r2, .null]) (st := []) (w := w4) rfl h10).trans <|
    (runs_stps (q' := (89, [.ref 34, .int x1, .int x2, .int x3, .int x4, .int r2, .null], [.int r2], w4)) 1 rfl).trans <|
    (runs_callS (rv := some (.int r5)) (w' := w5) rfl rfl rfl h11).trans <|
    (runs_stps (q' := (93, [.ref 34, .int x1, .int x2, .int x3, .int x4, .int r2, .null], [.int x3, .int r5], w5)) 1 rfl).trans <|
    (runs_callS (rv := some (.int r6)) (w' := w6) rfl rfl rfl h12).trans <|
    (runs_if_t (a := 99) (b := 109) (L := [.ref 34, .int x1, .int x2, .int x3, .int x4, .int r2, .null]) (st := []) (w := w6) rfl h13).trans <|
    (runs_stps (q' := (102, [.ref 34, .int x1, .int x2, .int x3, .int x4, .int r2, .null], [.int x3, .int r2], w6)) 2 rfl).trans <|
    (runs_if_t (a := 109) (b := 105) (L := [.ref 34, .int x1, .int x2, .int x3, .int x4, .int r2, .null]) (st := []) (w := w6) rfl h14).trans <|
    (runs_stps (q' := (114, [.ref 34, .int x1, .int x2, .int x3, .int x4, .int r2, .int 0], [.int 0], w6)) 3 rfl).trans <|
    (runs_if_t (a := 122) (b := 117) (L := [.ref 34, .int x1, .int x2, .int x3, .int x4, .int r2, .int 0]) (st := []) (w := w6) rfl h15).trans <|
    (runs_stps (q' := (33, [.ref 34, .int x1, .int x2, .int x3, .int (x4 + 1), .null, .null], [], w6)) 4 rfl).trans <|
    rfl
theorem p_X9_learn_33FFFFFFTF_L33 {ex : Ex} {x1 : Int32} {x2 : Int32} {x3 : Int32} {x4 : Int32} {v5 : Value} {v6 : Value} {r1 : Int32} {w1 : Wd} {r2 : Int32} {w2 : Wd} {r3 : Int32} {w3 : Wd} {r4 : Int32} {w4 : Wd} {r5 : Int32} {w5 : Wd} {r6 : Int32} {w6 : Wd} {w : Wd} (h1 : ¬ 7776 ≤ x4) (h2 : vp_in x4 7776) (h3 : ¬ (w.1 47 x4.toNatClampNeg) = 0) (h4 : ex 156 [.ref 34, .int x4] w = some (some (.int r1), w1)) (h5 : r1 = x1) (h6 : ex 178 [.ref 34, .int x4] w1 = some (some (.int r2), w2)) (h7 : ¬ x3 = (-9)) (h8 : ex 136 [.int r2] w2 = some (some (.int r3), w3)) (h9 : ex 136 [.int x3] w3 = some (some (.int r4), w4)) (h10 : ¬ r3 < r4) (h11 : ex 136 [.int r2] w4 = some (some (.int r5), w5)) (h12 : ex 136 [.int x3] w5 = some (some (.int r6), w6)) (h13 : r5 = r6) (h14 : x3 ≤ r2) (h15 : ¬ (0 : Int32) = 0) : runs (T_X9_learn ex) (33, [.ref 34, .int x1, .int x2, .int x3, .int x4, v5, v6], [], w) = runs (T_X9_learn ex) (33, [.ref 34, .int x1, .int x2, .int r2, .int (x4 + 1), .null, .null], [], w6) := 
    (runs_stps (q' := (38, [.ref 34, .int x1, .int x2, .int x3, .int x4, .null, .null], [.int 7776, .int x4], w)) 2 rfl).trans <|
    (runs_if_f (a := 130) (b := 41) (L := [.ref 34, .int x1, .int x2, .int x3, .int x4, .null, .null]) (st := []) (w := w) rfl h1).trans <|
    (runs_stps (q' := (47, [.ref 34, .int x1, .int x2, .int x3, .int x4, .null, .null], [.int x4, .ref 47], w)) 3 rfl).trans <|
    (runs_ck (q' := (48, [.ref 34, .int x1, .int x2, .int x3, .int x4, .null, .null], [.int (w.1 47 x4.toNatClampNeg)], w)) rfl h2).trans <|
    (runs_if_f (a := 124) (b := 51) (L := [.ref 34, .int x1, .int x2, .int x3, .int x4, .null, .null]) (st := []) (w := w) rfl h3).trans <|
    (runs_stps (q' := (54, [.ref 34, .int x1, .int x2, .int x3, .int x4, .null, .null], [.int x4, .ref 34], w)) 2 rfl).trans <|
    (runs_callV (rv := some (.int r1)) (w' := w1) rfl rfl rfl rfl h4).trans <|
    (runs_stps (q' := (58, [.ref 34, .int x1, .int x2, .int x3, .int x4, .null, .null], [.int x1, .int r1], w1)) 1 rfl).trans <|
    (runs_if_t (a := 61) (b := 124) (L := [.ref 34, .int x1, .int x2, .int x3, .int x4, .null, .null]) (st := []) (w := w1) rfl h5).trans <|
    (runs_stps (q' := (64, [.ref 34, .int x1, .int x2, .int x3, .int x4, .null, .null], [.int x4, .ref 34], w1)) 2 rfl).trans <|
    (runs_callV (rv := some (.int r2)) (w' := w2) rfl rfl rfl rfl h6).trans <|
    (runs_stps (q' := (72, [.ref 34, .int x1, .int x2, .int x3, .int x4, .int r2, .null], [.int (-9), .int x3], w2)) 3 rfl).trans <|
    (runs_if_f (a := 105) (b := 75) (L := [.ref 34, .int x1, .int x2, .int x3, .int x4, .int r2, .null]) (st := []) (w := w2) rfl h7).trans <|
    (runs_stps (q' := (77, [.ref 34, .int x1, .int x2, .int x3, .int x4, .int r2, .null], [.int r2], w2)) 1 rfl).trans <|
    (runs_callS (rv := some (.int r3)) (w' := w3) rfl rfl rfl h8).trans <|
    (runs_stps (q' := (81, [.ref 34, .int x1, .int x2, .int x3, .int x4, .int r2, .null], [.int x3, .int r3], w3)) 1 rfl).trans <|
    (runs_callS (rv := some (.int r4)) (w' := w4) rfl rfl rfl h9).trans <|
    (runs_if_f (a := 105) (b := 87) (L := [.ref 34, .int x1, .int x2, .int x3, .int x4, .int r2, .null]) (st := []) (w := w4) rfl h10).trans <|
    (runs_stps (q' := (89, [.ref 34, .int x1, .int x2, .int x3, .int x4, .int r2, .null], [.int r2], w4)) 1 rfl).trans <|
    (runs_callS (rv := some (.int r5)) (w' := w5) rfl rfl rfl h11).trans <|
    (runs_stps (q' := (93, [.ref 34, .int x1, .int x2, .int x3, .int x4, .int r2, .null], [.int x3, .int r5], w5)) 1 rfl).trans <|
    (runs_callS (rv := some (.int r6)) (w' := w6) rfl rfl rfl h12).trans <|
    (runs_if_t (a := 99) (b := 109) (L := [.ref 34, .int x1, .int x2, .int x3, .int x4, .int r2, .null]) (st := []) (w := w6) rfl h13).trans <|
    (runs_stps (q' := (102, [.ref 34, .int x1, .int x2, .int x3, .int x4, .int r2, .null], [.int x3, .int r2], w6)) 2 rfl).trans <|
    (runs_if_t (a := 109) (b := 105) (L := [.ref 34, .int x1, .int x2, .int x3, .int x4, .int r2, .null]) (st := []) (w := w6) rfl h14).trans <|
    (runs_stps (q' := (114, [.ref 34, .int x1, .int x2, .int x3, .int x4, .int r2, .int 0], [.int 0], w6)) 3 rfl).trans <|
    (runs_if_f (a := 122) (b := 117) (L := [.ref 34, .int x1, .int x2, .int x3, .int x4, .int r2, .int 0]) (st := []) (w := w6) rfl h15).trans <|
    (runs_stps (q' := (33, [.ref 34, .int x1, .int x2, .int r2, .int (x4 + 1), .null, .null], [], w6)) 5 rfl).trans <|
    rfl
theorem p_X9_learn_33FFFFFFFT_L33 {ex : Ex} {x1 : Int32} {x2 : Int32} {x3 : Int32} {x4 : Int32} {v5 : Value} {v6 : Value} {r1 : Int32} {w1 : Wd} {r2 : Int32} {w2 : Wd} {r3 : Int32} {w3 : Wd} {r4 : Int32} {w4 : Wd} {r5 : Int32} {w5 : Wd} {r6 : Int32} {w6 : Wd} {w : Wd} (h1 : ¬ 7776 ≤ x4) (h2 : vp_in x4 7776) (h3 : ¬ (w.1 47 x4.toNatClampNeg) = 0) (h4 : ex 156 [.ref 34, .int x4] w = some (some (.int r1), w1)) (h5 : r1 = x1) (h6 : ex 178 [.ref 34, .int x4] w1 = some (some (.int r2), w2)) (h7 : ¬ x3 = (-9)) (h8 : ex 136 [.int r2] w2 = some (some (.int r3), w3)) (h9 : ex 136 [.int x3] w3 = some (some (.int r4), w4)) (h10 : ¬ r3 < r4) (h11 : ex 136 [.int r2] w4 = some (some (.int r5), w5)) (h12 : ex 136 [.int x3] w5 = some (some (.int r6), w6)) (h13 : r5 = r6) (h14 : ¬ x3 ≤ r2) (h15 : (1 : Int32) = 0) : runs (T_X9_learn ex) (33, [.ref 34, .int x1, .int x2, .int x3, .int x4, v5, v6], [], w) = runs (T_X9_learn ex) (33, [.ref 34, .int x1, .int x2, .int x3, .int (x4 + 1), .null, .null], [], w6) := 
    (runs_stps (q' := (38, [.ref 34, .int x1, .int x2, .int x3, .int x4, .null, .null], [.int 7776, .int x4], w)) 2 rfl).trans <|
    (runs_if_f (a := 130) (b := 41) (L := [.ref 34, .int x1, .int x2, .int x3, .int x4, .null, .null]) (st := []) (w := w) rfl h1).trans <|
    (runs_stps (q' := (47, [.ref 34, .int x1, .int x2, .int x3, .int x4, .null, .null], [.int x4, .ref 47], w)) 3 rfl).trans <|
    (runs_ck (q' := (48, [.ref 34, .int x1, .int x2, .int x3, .int x4, .null, .null], [.int (w.1 47 x4.toNatClampNeg)], w)) rfl h2).trans <|
    (runs_if_f (a := 124) (b := 51) (L := [.ref 34, .int x1, .int x2, .int x3, .int x4, .null, .null]) (st := []) (w := w) rfl h3).trans <|
    (runs_stps (q' := (54, [.ref 34, .int x1, .int x2, .int x3, .int x4, .null, .null], [.int x4, .ref 34], w)) 2 rfl).trans <|
    (runs_callV (rv := some (.int r1)) (w' := w1) rfl rfl rfl rfl h4).trans <|
    (runs_stps (q' := (58, [.ref 34, .int x1, .int x2, .int x3, .int x4, .null, .null], [.int x1, .int r1], w1)) 1 rfl).trans <|
    (runs_if_t (a := 61) (b := 124) (L := [.ref 34, .int x1, .int x2, .int x3, .int x4, .null, .null]) (st := []) (w := w1) rfl h5).trans <|
    (runs_stps (q' := (64, [.ref 34, .int x1, .int x2, .int x3, .int x4, .null, .null], [.int x4, .ref 34], w1)) 2 rfl).trans <|
    (runs_callV (rv := some (.int r2)) (w' := w2) rfl rfl rfl rfl h6).trans <|
    (runs_stps (q' := (72, [.ref 34, .int x1, .int x2, .int x3, .int x4, .int r2, .null], [.int (-9), .int x3], w2)) 3 rfl).trans <|
    (runs_if_f (a := 105) (b := 75) (L := [.ref 34, .int x1, .int x2, .int x3, .int x4, .int r2, .null]) (st := []) (w := w2) rfl h7).trans <|
    (runs_stps (q' := (77, [.ref 34, .int x1, .int x2, .int x3, .int x4, .int r2, .null], [.int r2], w2)) 1 rfl).trans <|
    (runs_callS (rv := some (.int r3)) (w' := w3) rfl rfl rfl h8).trans <|
    (runs_stps (q' := (81, [.ref 34, .int x1, .int x2, .int x3, .int x4, .int r2, .null], [.int x3, .int r3], w3)) 1 rfl).trans <|
    (runs_callS (rv := some (.int r4)) (w' := w4) rfl rfl rfl h9).trans <|
    (runs_if_f (a := 105) (b := 87) (L := [.ref 34, .int x1, .int x2, .int x3, .int x4, .int r2, .null]) (st := []) (w := w4) rfl h10).trans <|
    (runs_stps (q' := (89, [.ref 34, .int x1, .int x2, .int x3, .int x4, .int r2, .null], [.int r2], w4)) 1 rfl).trans <|
    (runs_callS (rv := some (.int r5)) (w' := w5) rfl rfl rfl h11).trans <|
    (runs_stps (q' := (93, [.ref 34, .int x1, .int x2, .int x3, .int x4, .int r2, .null], [.int x3, .int r5], w5)) 1 rfl).trans <|
    (runs_callS (rv := some (.int r6)) (w' := w6) rfl rfl rfl h12).trans <|
    (runs_if_t (a := 99) (b := 109) (L := [.ref 34, .int x1, .int x2, .int x3, .int x4, .int r2, .null]) (st := []) (w := w6) rfl h13).trans <|
    (runs_stps (q' := (102, [.ref 34, .int x1, .int x2, .int x3, .int x4, .int r2, .null], [.int x3, .int r2], w6)) 2 rfl).trans <|
    (runs_if_f (a := 109) (b := 105) (L := [.ref 34, .int x1, .int x2, .int x3, .int x4, .int r2, .null]) (st := []) (w := w6) rfl h14).trans <|
    (runs_stps (q' := (114, [.ref 34, .int x1, .int x2, .int x3, .int x4, .int r2, .int 1], [.int 1], w6)) 4 rfl).trans <|
    (runs_if_t (a := 122) (b := 117) (L := [.ref 34, .int x1, .int x2, .int x3, .int x4, .int r2, .int 1]) (st := []) (w := w6) rfl h15).trans <|
    (runs_stps (q' := (33, [.ref 34, .int x1, .int x2, .int x3, .int (x4 + 1), .null, .null], [], w6)) 4 rfl).trans <|
    rfl
theorem p_X9_learn_33FFFFFFFF_L33 {ex : Ex} {x1 : Int32} {x2 : Int32} {x3 : Int32} {x4 : Int32} {v5 : Value} {v6 : Value} {r1 : Int32} {w1 : Wd} {r2 : Int32} {w2 : Wd} {r3 : Int32} {w3 : Wd} {r4 : Int32} {w4 : Wd} {r5 : Int32} {w5 : Wd} {r6 : Int32} {w6 : Wd} {w : Wd} (h1 : ¬ 7776 ≤ x4) (h2 : vp_in x4 7776) (h3 : ¬ (w.1 47 x4.toNatClampNeg) = 0) (h4 : ex 156 [.ref 34, .int x4] w = some (some (.int r1), w1)) (h5 : r1 = x1) (h6 : ex 178 [.ref 34, .int x4] w1 = some (some (.int r2), w2)) (h7 : ¬ x3 = (-9)) (h8 : ex 136 [.int r2] w2 = some (some (.int r3), w3)) (h9 : ex 136 [.int x3] w3 = some (some (.int r4), w4)) (h10 : ¬ r3 < r4) (h11 : ex 136 [.int r2] w4 = some (some (.int r5), w5)) (h12 : ex 136 [.int x3] w5 = some (some (.int r6), w6)) (h13 : r5 = r6) (h14 : ¬ x3 ≤ r2) (h15 : ¬ (1 : Int32) = 0) : runs (T_X9_learn ex) (33, [.ref 34, .int x1, .int x2, .int x3, .int x4, v5, v6], [], w) = runs (T_X9_learn ex) (33, [.ref 34, .int x1, .int x2, .int r2, .int (x4 + 1), .null, .null], [], w6) := 
    (runs_stps (q' := (38, [.ref 34, .int x1, .int x2, .int x3, .int x4, .null, .null], [.int 7776, .int x4], w)) 2 rfl).trans <|
    (runs_if_f (a := 130) (b := 41) (L := [.ref 34, .int x1, .int x2, .int x3, .int x4, .null, .null]) (st := []) (w := w) rfl h1).trans <|
    (runs_stps (q' := (47, [.ref 34, .int x1, .int x2, .int x3, .int x4, .null, .null], [.int x4, .ref 47], w)) 3 rfl).trans <|
    (runs_ck (q' := (48, [.ref 34, .int x1, .int x2, .int x3, .int x4, .null, .null], [.int (w.1 47 x4.toNatClampNeg)], w)) rfl h2).trans <|
    (runs_if_f (a := 124) (b := 51) (L := [.ref 34, .int x1, .int x2, .int x3, .int x4, .null, .null]) (st := []) (w := w) rfl h3).trans <|
    (runs_stps (q' := (54, [.ref 34, .int x1, .int x2, .int x3, .int x4, .null, .null], [.int x4, .ref 34], w)) 2 rfl).trans <|
    (runs_callV (rv := some (.int r1)) (w' := w1) rfl rfl rfl rfl h4).trans <|
    (runs_stps (q' := (58, [.ref 34, .int x1, .int x2, .int x3, .int x4, .null, .null], [.int x1, .int r1], w1)) 1 rfl).trans <|
    (runs_if_t (a := 61) (b := 124) (L := [.ref 34, .int x1, .int x2, .int x3, .int x4, .null, .null]) (st := []) (w := w1) rfl h5).trans <|
    (runs_stps (q' := (64, [.ref 34, .int x1, .int x2, .int x3, .int x4, .null, .null], [.int x4, .ref 34], w1)) 2 rfl).trans <|
    (runs_callV (rv := some (.int r2)) (w' := w2) rfl rfl rfl rfl h6).trans <|
    (runs_stps (q' := (72, [.ref 34, .int x1, .int x2, .int x3, .int x4, .int r2, .null], [.int (-9), .int x3], w2)) 3 rfl).trans <|
    (runs_if_f (a := 105) (b := 75) (L := [.ref 34, .int x1, .int x2, .int x3, .int x4, .int r2, .null]) (st := []) (w := w2) rfl h7).trans <|
    (runs_stps (q' := (77, [.ref 34, .int x1, .int x2, .int x3, .int x4, .int r2, .null], [.int r2], w2)) 1 rfl).trans <|
    (runs_callS (rv := some (.int r3)) (w' := w3) rfl rfl rfl h8).trans <|
    (runs_stps (q' := (81, [.ref 34, .int x1, .int x2, .int x3, .int x4, .int r2, .null], [.int x3, .int r3], w3)) 1 rfl).trans <|
    (runs_callS (rv := some (.int r4)) (w' := w4) rfl rfl rfl h9).trans <|
    (runs_if_f (a := 105) (b := 87) (L := [.ref 34, .int x1, .int x2, .int x3, .int x4, .int r2, .null]) (st := []) (w := w4) rfl h10).trans <|
    (runs_stps (q' := (89, [.ref 34, .int x1, .int x2, .int x3, .int x4, .int r2, .null], [.int r2], w4)) 1 rfl).trans <|
    (runs_callS (rv := some (.int r5)) (w' := w5) rfl rfl rfl h11).trans <|
    (runs_stps (q' := (93, [.ref 34, .int x1, .int x2, .int x3, .int x4, .int r2, .null], [.int x3, .int r5], w5)) 1 rfl).trans <|
    (runs_callS (rv := some (.int r6)) (w' := w6) rfl rfl rfl h12).trans <|
    (runs_if_t (a := 99) (b := 109) (L := [.ref 34, .int x1, .int x2, .int x3, .int x4, .int r2, .null]) (st := []) (w := w6) rfl h13).trans <|
    (runs_stps (q' := (102, [.ref 34, .int x1, .int x2, .int x3, .int x4, .int r2, .null], [.int x3, .int r2], w6)) 2 rfl).trans <|
    (runs_if_f (a := 109) (b := 105) (L := [.ref 34, .int x1, .int x2, .int x3, .int x4, .int r2, .null]) (st := []) (w := w6) rfl h14).trans <|
    (runs_stps (q' := (114, [.ref 34, .int x1, .int x2, .int x3, .int x4, .int r2, .int 1], [.int 1], w6)) 4 rfl).trans <|
    (runs_if_f (a := 122) (b := 117) (L := [.ref 34, .int x1, .int x2, .int x3, .int x4, .int r2, .int 1]) (st := []) (w := w6) rfl h15).trans <|
    (runs_stps (q' := (33, [.ref 34, .int x1, .int x2, .int r2, .int (x4 + 1), .null, .null], [], w6)) 5 rfl).trans <|
    rfl

/-! paths of the methods (printed by a program) -/
theorem p_X9_readsItem_93FFF_L93 {ex : Ex} {v1 : Value} {x2 : Int32} {x3 : Int32} {r1 : Int32} {w1 : Wd} {r2 : Int32} {w2 : Wd} {w : Wd} (h1 : ¬ 5 ≤ x3) (h2 : ex 144 [.ref 34] w = some (some (.int r1), w1)) (h3 : ¬ r1 = 0) (h4 : (w1.1 34 5) = 2) (h5 : ex 146 [.ref 34, .int 0, .int ((w1.1 34 16) - 1)] w1 = some (some (.int r2), w2)) : runs (T_X9_readsItem ex) (93, [.ref 34, v1, .int x2, .int x3], [], w) = runs (T_X9_readsItem ex) (93, [.ref 34, .null, .int (((6 * x2) + 1) + r2), .int (x3 + 1)], [], w2) := 
    (runs_stps (q' := (95, [.ref 34, .null, .int x2, .int x3], [.int 5, .int x3], w)) 2 rfl).trans <|
    (runs_if_f (a := 138) (b := 98) (L := [.ref 34, .null, .int x2, .int x3]) (st := []) (w := w) rfl h1).trans <|
    (runs_stps (q' := (99, [.ref 34, .null, .int x2, .int x3], [.ref 34], w)) 1 rfl).trans <|
    (runs_callV (rv := some (.int r1)) (w' := w1) rfl rfl rfl rfl h2).trans <|
    (runs_if_f (a := 138) (b := 105) (L := [.ref 34, .null, .int x2, .int x3]) (st := []) (w := w1) rfl h3).trans <|
    (runs_stps (q' := (110, [.ref 34, .null, .int x2, .int x3], [.int 2, .int (w1.1 34 5)], w1)) 3 rfl).trans <|
    (runs_if_t (a := 113) (b := 138) (L := [.ref 34, .null, .int x2, .int x3]) (st := []) (w := w1) rfl h4).trans <|
    (runs_stps (q' := (127, [.ref 34, .null, .int x2, .int x3], [.int ((w1.1 34 16) - 1), .int 0, .ref 34, .int ((6 * x2) + 1)], w1)) 11 rfl).trans <|
    (runs_callV (rv := some (.int r2)) (w' := w2) rfl rfl rfl rfl h5).trans <|
    (runs_stps (q' := (93, [.ref 34, .null, .int (((6 * x2) + 1) + r2), .int (x3 + 1)], [], w2)) 4 rfl).trans <|
    rfl
theorem p_X9_school_0_L35 {ex : Ex} {w : Wd} : runs (T_X9_school ex) (0, [.ref 34, .null, .null], [], w) = runs (T_X9_school ex) (35, [.ref 34, .int 0, .int 6], [], updI (updI (updI (updI (updI (updI w 34 0 0) 34 8 (-1)) 34 4 0) 34 16 0) 34 17 0) 34 18 0) := 
    (runs_stps (q' := (35, [.ref 34, .int 0, .int 6], [], updI (updI (updI (updI (updI (updI w 34 0 0) 34 8 (-1)) 34 4 0) 34 16 0) 34 17 0) 34 18 0)) 22 rfl).trans <|
    rfl
theorem p_X9_school_35T_L59 {ex : Ex} {x1 : Int32} {x2 : Int32} {w1 : Wd} {w : Wd} (h1 : 12 ≤ x2) (h2 : ex 143 [.ref 34] w = some (none, w1)) : runs (T_X9_school ex) (35, [.ref 34, .int x1, .int x2], [], w) = runs (T_X9_school ex) (59, [.ref 34, .int x1, .null], [], w1) := 
    (runs_stps (q' := (38, [.ref 34, .int x1, .int x2], [.int 12, .int x2], w)) 2 rfl).trans <|
    (runs_if_t (a := 55) (b := 41) (L := [.ref 34, .int x1, .int x2]) (st := []) (w := w) rfl h1).trans <|
    (runs_stps (q' := (56, [.ref 34, .int x1, .null], [.ref 34], w)) 1 rfl).trans <|
    (runs_callV (rv := none) (w' := w1) rfl rfl rfl rfl h2).trans <|
    rfl
theorem p_X9_school_35F_L35 {ex : Ex} {x1 : Int32} {x2 : Int32} {w : Wd} (h1 : ¬ 12 ≤ x2) (h2 : vp_in x2 12) : runs (T_X9_school ex) (35, [.ref 34, .int x1, .int x2], [], w) = runs (T_X9_school ex) (35, [.ref 34, .int x1, .int (x2 + 1)], [], updI w 39 x2.toNatClampNeg (-9)) := 
    (runs_stps (q' := (38, [.ref 34, .int x1, .int x2], [.int 12, .int x2], w)) 2 rfl).trans <|
    (runs_if_f (a := 55) (b := 41) (L := [.ref 34, .int x1, .int x2]) (st := []) (w := w) rfl h1).trans <|
    (runs_stps (q' := (48, [.ref 34, .int x1, .int x2], [.int (-9), .int x2, .ref 39], w)) 4 rfl).trans <|
    (runs_ck (q' := (49, [.ref 34, .int x1, .int x2], [], updI w 39 x2.toNatClampNeg (-9))) rfl h2).trans <|
    (runs_stps (q' := (35, [.ref 34, .int x1, .int (x2 + 1)], [], updI w 39 x2.toNatClampNeg (-9))) 2 rfl).trans <|
    rfl
theorem p_X9_school_59TT_R {ex : Ex} {x1 : Int32} {v2 : Value} {r1 : Int32} {w1 : Wd} {r2 : Int32} {w2 : Wd} {w3 : Wd} {w : Wd} (h1 : ex 144 [.ref 34] w = some (some (.int r1), w1)) (h2 : r1 = 0) (h3 : ex 144 [.ref 34] w1 = some (some (.int r2), w2)) (h4 : ¬ r2 = 0) (h5 : ex 150 [.ref 34] w2 = some (none, w3)) : runs (T_X9_school ex) (59, [.ref 34, .int x1, v2], [], w) = some (some (.int x1), w3) := 
    (runs_stps (q' := (60, [.ref 34, .int x1, .null], [.ref 34], w)) 1 rfl).trans <|
    (runs_callV (rv := some (.int r1)) (w' := w1) rfl rfl rfl rfl h1).trans <|
    (runs_if_t (a := 134) (b := 66) (L := [.ref 34, .int x1, .null]) (st := []) (w := w1) rfl h2).trans <|
    (runs_stps (q' := (135, [.ref 34, .int x1, .null], [.ref 34], w1)) 1 rfl).trans <|
    (runs_callV (rv := some (.int r2)) (w' := w2) rfl rfl rfl rfl h3).trans <|
    (runs_if_f (a := 141) (b := 149) (L := [.ref 34, .int x1, .null]) (st := []) (w := w2) rfl h4).trans <|
    (runs_stps (q' := (150, [.ref 34, .int x1, .null], [.ref 34], w2)) 1 rfl).trans <|
    (runs_callV (rv := none) (w' := w3) rfl rfl rfl rfl h5).trans <|
    (runs_stps (q' := (154, [.ref 34, .int x1, .null], [.int x1], w3)) 1 rfl).trans <|
    runs_ret rfl
theorem p_X9_school_59TF_R {ex : Ex} {x1 : Int32} {v2 : Value} {r1 : Int32} {w1 : Wd} {r2 : Int32} {w2 : Wd} {w : Wd} (h1 : ex 144 [.ref 34] w = some (some (.int r1), w1)) (h2 : r1 = 0) (h3 : ex 144 [.ref 34] w1 = some (some (.int r2), w2)) (h4 : r2 = 0) : runs (T_X9_school ex) (59, [.ref 34, .int x1, v2], [], w) = some (some (.int ((-10) - (w2.1 34 8))), w2) := 
    (runs_stps (q' := (60, [.ref 34, .int x1, .null], [.ref 34], w)) 1 rfl).trans <|
    (runs_callV (rv := some (.int r1)) (w' := w1) rfl rfl rfl rfl h1).trans <|
    (runs_if_t (a := 134) (b := 66) (L := [.ref 34, .int x1, .null]) (st := []) (w := w1) rfl h2).trans <|
    (runs_stps (q' := (135, [.ref 34, .int x1, .null], [.ref 34], w1)) 1 rfl).trans <|
    (runs_callV (rv := some (.int r2)) (w' := w2) rfl rfl rfl rfl h3).trans <|
    (runs_if_t (a := 141) (b := 149) (L := [.ref 34, .int x1, .null]) (st := []) (w := w2) rfl h4).trans <|
    (runs_stps (q' := (148, [.ref 34, .int x1, .null], [.int ((-10) - (w2.1 34 8))], w2)) 4 rfl).trans <|
    runs_ret rfl
theorem p_X9_school_59FTT_R {ex : Ex} {x1 : Int32} {v2 : Value} {r1 : Int32} {w1 : Wd} {r2 : Int32} {w2 : Wd} {w3 : Wd} {w : Wd} (h1 : ex 144 [.ref 34] w = some (some (.int r1), w1)) (h2 : ¬ r1 = 0) (h3 : (w1.1 34 5) = 0) (h4 : ex 144 [.ref 34] w1 = some (some (.int r2), w2)) (h5 : ¬ r2 = 0) (h6 : ex 150 [.ref 34] w2 = some (none, w3)) : runs (T_X9_school ex) (59, [.ref 34, .int x1, v2], [], w) = some (some (.int x1), w3) := 
    (runs_stps (q' := (60, [.ref 34, .int x1, .null], [.ref 34], w)) 1 rfl).trans <|
    (runs_callV (rv := some (.int r1)) (w' := w1) rfl rfl rfl rfl h1).trans <|
    (runs_if_f (a := 134) (b := 66) (L := [.ref 34, .int x1, .null]) (st := []) (w := w1) rfl h2).trans <|
    (runs_stps (q' := (70, [.ref 34, .int x1, .null], [.int (w1.1 34 5)], w1)) 2 rfl).trans <|
    (runs_if_t (a := 134) (b := 73) (L := [.ref 34, .int x1, .null]) (st := []) (w := w1) rfl h3).trans <|
    (runs_stps (q' := (135, [.ref 34, .int x1, .null], [.ref 34], w1)) 1 rfl).trans <|
    (runs_callV (rv := some (.int r2)) (w' := w2) rfl rfl rfl rfl h4).trans <|
    (runs_if_f (a := 141) (b := 149) (L := [.ref 34, .int x1, .null]) (st := []) (w := w2) rfl h5).trans <|
    (runs_stps (q' := (150, [.ref 34, .int x1, .null], [.ref 34], w2)) 1 rfl).trans <|
    (runs_callV (rv := none) (w' := w3) rfl rfl rfl rfl h6).trans <|
    (runs_stps (q' := (154, [.ref 34, .int x1, .null], [.int x1], w3)) 1 rfl).trans <|
    runs_ret rfl
theorem p_X9_school_59FTF_R {ex : Ex} {x1 : Int32} {v2 : Value} {r1 : Int32} {w1 : Wd} {r2 : Int32} {w2 : Wd} {w : Wd} (h1 : ex 144 [.ref 34] w = some (some (.int r1), w1)) (h2 : ¬ r1 = 0) (h3 : (w1.1 34 5) = 0) (h4 : ex 144 [.ref 34] w1 = some (some (.int r2), w2)) (h5 : r2 = 0) : runs (T_X9_school ex) (59, [.ref 34, .int x1, v2], [], w) = some (some (.int ((-10) - (w2.1 34 8))), w2) := 
    (runs_stps (q' := (60, [.ref 34, .int x1, .null], [.ref 34], w)) 1 rfl).trans <|
    (runs_callV (rv := some (.int r1)) (w' := w1) rfl rfl rfl rfl h1).trans <|
    (runs_if_f (a := 134) (b := 66) (L := [.ref 34, .int x1, .null]) (st := []) (w := w1) rfl h2).trans <|
    (runs_stps (q' := (70, [.ref 34, .int x1, .null], [.int (w1.1 34 5)], w1)) 2 rfl).trans <|
    (runs_if_t (a := 134) (b := 73) (L := [.ref 34, .int x1, .null]) (st := []) (w := w1) rfl h3).trans <|
    (runs_stps (q' := (135, [.ref 34, .int x1, .null], [.ref 34], w1)) 1 rfl).trans <|
    (runs_callV (rv := some (.int r2)) (w' := w2) rfl rfl rfl rfl h4).trans <|
    (runs_if_t (a := 141) (b := 149) (L := [.ref 34, .int x1, .null]) (st := []) (w := w2) rfl h5).trans <|
    (runs_stps (q' := (148, [.ref 34, .int x1, .null], [.int ((-10) - (w2.1 34 8))], w2)) 4 rfl).trans <|
    runs_ret rfl
theorem p_X9_school_59FFTTT_L59 {ex : Ex} {x1 : Int32} {v2 : Value} {r1 : Int32} {w1 : Wd} {r2 : Int32} {w2 : Wd} {r3 : Int32} {w3 : Wd} {r4 : Int32} {w4 : Wd} {w : Wd} (h1 : ex 144 [.ref 34] w = some (some (.int r1), w1)) (h2 : ¬ r1 = 0) (h3 : ¬ (w1.1 34 5) = 0) (h4 : ¬ (w1.1 34 5) = 1) (h5 : ex 145 [.ref 34, .int 0] w1 = some (some (.int r2), w2)) (h6 : ex 144 [.ref 34] w2 = some (some (.int r3), w3)) (h7 : r3 = 0) (h8 : ¬ (w3.1 34 5) = 3) (h9 : ex 145 [.ref 34, .int 0] w3 = some (some (.int r4), w4)) : runs (T_X9_school ex) (59, [.ref 34, .int x1, v2], [], w) = runs (T_X9_school ex) (59, [.ref 34, .int (x1 + 1), .null], [], w4) := 
    (runs_stps (q' := (60, [.ref 34, .int x1, .null], [.ref 34], w)) 1 rfl).trans <|
    (runs_callV (rv := some (.int r1)) (w' := w1) rfl rfl rfl rfl h1).trans <|
    (runs_if_f (a := 134) (b := 66) (L := [.ref 34, .int x1, .null]) (st := []) (w := w1) rfl h2).trans <|
    (runs_stps (q' := (70, [.ref 34, .int x1, .null], [.int (w1.1 34 5)], w1)) 2 rfl).trans <|
    (runs_if_f (a := 134) (b := 73) (L := [.ref 34, .int x1, .null]) (st := []) (w := w1) rfl h3).trans <|
    (runs_stps (q' := (79, [.ref 34, .int x1, .null], [.int 1, .int (w1.1 34 5), .ref 34], w1)) 4 rfl).trans <|
    (runs_if_f (a := 82) (b := 93) (L := [.ref 34, .int x1, .null]) (st := [.ref 34]) (w := w1) rfl h4).trans <|
    (runs_stps (q' := (94, [.ref 34, .int x1, .null], [.int 0, .ref 34], w1)) 1 rfl).trans <|
    (runs_callVf (rv := some (.int r2)) (w' := w2) rfl rfl rfl rfl h5).trans <|
    (runs_stps (q' := (99, [.ref 34, .int x1, .int r2], [.ref 34], w2)) 2 rfl).trans <|
    (runs_callV (rv := some (.int r3)) (w' := w3) rfl rfl rfl rfl h6).trans <|
    (runs_if_t (a := 110) (b := 105) (L := [.ref 34, .int x1, .int r2]) (st := []) (w := w3) rfl h7).trans <|
    (runs_stps (q' := (116, [.ref 34, .int x1, .null], [.int 3, .int (w3.1 34 5), .ref 34], w3)) 4 rfl).trans <|
    (runs_if_f (a := 119) (b := 123) (L := [.ref 34, .int x1, .null]) (st := [.ref 34]) (w := w3) rfl h8).trans <|
    (runs_stps (q' := (124, [.ref 34, .int x1, .null], [.int 0, .ref 34], w3)) 1 rfl).trans <|
    (runs_callVf (rv := some (.int r4)) (w' := w4) rfl rfl rfl rfl h9).trans <|
    (runs_stps (q' := (59, [.ref 34, .int (x1 + 1), .null], [], w4)) 3 rfl).trans <|
    rfl
theorem p_X9_school_59FFTTF_L59 {ex : Ex} {x1 : Int32} {v2 : Value} {r1 : Int32} {w1 : Wd} {r2 : Int32} {w2 : Wd} {r3 : Int32} {w3 : Wd} {r4 : Int32} {w4 : Wd} {w : Wd} (h1 : ex 144 [.ref 34] w = some (some (.int r1), w1)) (h2 : ¬ r1 = 0) (h3 : ¬ (w1.1 34 5) = 0) (h4 : ¬ (w1.1 34 5) = 1) (h5 : ex 145 [.ref 34, .int 0] w1 = some (some (.int r2), w2)) (h6 : ex 144 [.ref 34] w2 = some (some (.int r3), w3)) (h7 : r3 = 0) (h8 : (w3.1 34 5) = 3) (h9 : ex 145 [.ref 34, .int 1] w3 = some (some (.int r4), w4)) : runs (T_X9_school ex) (59, [.ref 34, .int x1, v2], [], w) = runs (T_X9_school ex) (59, [.ref 34, .int (x1 + 1), .null], [], w4) := 
    (runs_stps (q' := (60, [.ref 34, .int x1, .null], [.ref 34], w)) 1 rfl).trans <|
    (runs_callV (rv := some (.int r1)) (w' := w1) rfl rfl rfl rfl h1).trans <|
    (runs_if_f (a := 134) (b := 66) (L := [.ref 34, .int x1, .null]) (st := []) (w := w1) rfl h2).trans <|
    (runs_stps (q' := (70, [.ref 34, .int x1, .null], [.int (w1.1 34 5)], w1)) 2 rfl).trans <|
    (runs_if_f (a := 134) (b := 73) (L := [.ref 34, .int x1, .null]) (st := []) (w := w1) rfl h3).trans <|
    (runs_stps (q' := (79, [.ref 34, .int x1, .null], [.int 1, .int (w1.1 34 5), .ref 34], w1)) 4 rfl).trans <|
    (runs_if_f (a := 82) (b := 93) (L := [.ref 34, .int x1, .null]) (st := [.ref 34]) (w := w1) rfl h4).trans <|
    (runs_stps (q' := (94, [.ref 34, .int x1, .null], [.int 0, .ref 34], w1)) 1 rfl).trans <|
    (runs_callVf (rv := some (.int r2)) (w' := w2) rfl rfl rfl rfl h5).trans <|
    (runs_stps (q' := (99, [.ref 34, .int x1, .int r2], [.ref 34], w2)) 2 rfl).trans <|
    (runs_callV (rv := some (.int r3)) (w' := w3) rfl rfl rfl rfl h6).trans <|
    (runs_if_t (a := 110) (b := 105) (L := [.ref 34, .int x1, .int r2]) (st := []) (w := w3) rfl h7).trans <|
    (runs_stps (q' := (116, [.ref 34, .int x1, .null], [.int 3, .int (w3.1 34 5), .ref 34], w3)) 4 rfl).trans <|
    (runs_if_t (a := 119) (b := 123) (L := [.ref 34, .int x1, .null]) (st := [.ref 34]) (w := w3) rfl h8).trans <|
    (runs_stps (q' := (124, [.ref 34, .int x1, .null], [.int 1, .ref 34], w3)) 2 rfl).trans <|
    (runs_callVf (rv := some (.int r4)) (w' := w4) rfl rfl rfl rfl h9).trans <|
    (runs_stps (q' := (59, [.ref 34, .int (x1 + 1), .null], [], w4)) 3 rfl).trans <|
    rfl
theorem p_X9_school_59FFTFT_L59 {ex : Ex} {x1 : Int32} {v2 : Value} {r1 : Int32} {w1 : Wd} {r2 : Int32} {w2 : Wd} {r3 : Int32} {w3 : Wd} {w4 : Wd} {r5 : Int32} {w5 : Wd} {w : Wd} (h1 : ex 144 [.ref 34] w = some (some (.int r1), w1)) (h2 : ¬ r1 = 0) (h3 : ¬ (w1.1 34 5) = 0) (h4 : ¬ (w1.1 34 5) = 1) (h5 : ex 145 [.ref 34, .int 0] w1 = some (some (.int r2), w2)) (h6 : ex 144 [.ref 34] w2 = some (some (.int r3), w3)) (h7 : ¬ r3 = 0) (h8 : ex 148 [.ref 34, .int r2] w3 = some (none, w4)) (h9 : ¬ (w4.1 34 5) = 3) (h10 : ex 145 [.ref 34, .int 0] w4 = some (some (.int r5), w5)) : runs (T_X9_school ex) (59, [.ref 34, .int x1, v2], [], w) = runs (T_X9_school ex) (59, [.ref 34, .int (x1 + 1), .null], [], w5) := 
    (runs_stps (q' := (60, [.ref 34, .int x1, .null], [.ref 34], w)) 1 rfl).trans <|
    (runs_callV (rv := some (.int r1)) (w' := w1) rfl rfl rfl rfl h1).trans <|
    (runs_if_f (a := 134) (b := 66) (L := [.ref 34, .int x1, .null]) (st := []) (w := w1) rfl h2).trans <|
    (runs_stps (q' := (70, [.ref 34, .int x1, .null], [.int (w1.1 34 5)], w1)) 2 rfl).trans <|
    (runs_if_f (a := 134) (b := 73) (L := [.ref 34, .int x1, .null]) (st := []) (w := w1) rfl h3).trans <|
    (runs_stps (q' := (79, [.ref 34, .int x1, .null], [.int 1, .int (w1.1 34 5), .ref 34], w1)) 4 rfl).trans <|
    (runs_if_f (a := 82) (b := 93) (L := [.ref 34, .int x1, .null]) (st := [.ref 34]) (w := w1) rfl h4).trans <|
    (runs_stps (q' := (94, [.ref 34, .int x1, .null], [.int 0, .ref 34], w1)) 1 rfl).trans <|
    (runs_callVf (rv := some (.int r2)) (w' := w2) rfl rfl rfl rfl h5).trans <|
    (runs_stps (q' := (99, [.ref 34, .int x1, .int r2], [.ref 34], w2)) 2 rfl).trans <|
    (runs_callV (rv := some (.int r3)) (w' := w3) rfl rfl rfl rfl h6).trans <|
    (runs_if_f (a := 110) (b := 105) (L := [.ref 34, .int x1, .int r2]) (st := []) (w := w3) rfl h7).trans <|
    (runs_stps (q' := (107, [.ref 34, .int x1, .int r2], [.int r2, .ref 34], w3)) 2 rfl).trans <|
    (runs_callV (rv := none) (w' := w4) rfl rfl rfl rfl h8).trans <|
    (runs_stps (q' := (116, [.ref 34, .int x1, .null], [.int 3, .int (w4.1 34 5), .ref 34], w4)) 4 rfl).trans <|
    (runs_if_f (a := 119) (b := 123) (L := [.ref 34, .int x1, .null]) (st := [.ref 34]) (w := w4) rfl h9).trans <|
    (runs_stps (q' := (124, [.ref 34, .int x1, .null], [.int 0, .ref 34], w4)) 1 rfl).trans <|
    (runs_callVf (rv := some (.int r5)) (w' := w5) rfl rfl rfl rfl h10).trans <|
    (runs_stps (q' := (59, [.ref 34, .int (x1 + 1), .null], [], w5)) 3 rfl).trans <|
    rfl
theorem p_X9_school_59FFTFF_L59 {ex : Ex} {x1 : Int32} {v2 : Value} {r1 : Int32} {w1 : Wd} {r2 : Int32} {w2 : Wd} {r3 : Int32} {w3 : Wd} {w4 : Wd} {r5 : Int32} {w5 : Wd} {w : Wd} (h1 : ex 144 [.ref 34] w = some (some (.int r1), w1)) (h2 : ¬ r1 = 0) (h3 : ¬ (w1.1 34 5) = 0) (h4 : ¬ (w1.1 34 5) = 1) (h5 : ex 145 [.ref 34, .int 0] w1 = some (some (.int r2), w2)) (h6 : ex 144 [.ref 34] w2 = some (some (.int r3), w3)) (h7 : ¬ r3 = 0) (h8 : ex 148 [.ref 34, .int r2] w3 = some (none, w4)) (h9 : (w4.1 34 5) = 3) (h10 : ex 145 [.ref 34, .int 1] w4 = some (some (.int r5), w5)) : runs (T_X9_school ex) (59, [.ref 34, .int x1, v2], [], w) = runs (T_X9_school ex) (59, [.ref 34, .int (x1 + 1), .null], [], w5) := 
    (runs_stps (q' := (60, [.ref 34, .int x1, .null], [.ref 34], w)) 1 rfl).trans <|
    (runs_callV (rv := some (.int r1)) (w' := w1) rfl rfl rfl rfl h1).trans <|
    (runs_if_f (a := 134) (b := 66) (L := [.ref 34, .int x1, .null]) (st := []) (w := w1) rfl h2).trans <|
    (runs_stps (q' := (70, [.ref 34, .int x1, .null], [.int (w1.1 34 5)], w1)) 2 rfl).trans <|
    (runs_if_f (a := 134) (b := 73) (L := [.ref 34, .int x1, .null]) (st := []) (w := w1) rfl h3).trans <|
    (runs_stps (q' := (79, [.ref 34, .int x1, .null], [.int 1, .int (w1.1 34 5), .ref 34], w1)) 4 rfl).trans <|
    (runs_if_f (a := 82) (b := 93) (L := [.ref 34, .int x1, .null]) (st := [.ref 34]) (w := w1) rfl h4).trans <|
    (runs_stps (q' := (94, [.ref 34, .int x1, .null], [.int 0, .ref 34], w1)) 1 rfl).trans <|
    (runs_callVf (rv := some (.int r2)) (w' := w2) rfl rfl rfl rfl h5).trans <|
    (runs_stps (q' := (99, [.ref 34, .int x1, .int r2], [.ref 34], w2)) 2 rfl).trans <|
    (runs_callV (rv := some (.int r3)) (w' := w3) rfl rfl rfl rfl h6).trans <|
    (runs_if_f (a := 110) (b := 105) (L := [.ref 34, .int x1, .int r2]) (st := []) (w := w3) rfl h7).trans <|
    (runs_stps (q' := (107, [.ref 34, .int x1, .int r2], [.int r2, .ref 34], w3)) 2 rfl).trans <|
    (runs_callV (rv := none) (w' := w4) rfl rfl rfl rfl h8).trans <|
    (runs_stps (q' := (116, [.ref 34, .int x1, .null], [.int 3, .int (w4.1 34 5), .ref 34], w4)) 4 rfl).trans <|
    (runs_if_t (a := 119) (b := 123) (L := [.ref 34, .int x1, .null]) (st := [.ref 34]) (w := w4) rfl h9).trans <|
    (runs_stps (q' := (124, [.ref 34, .int x1, .null], [.int 1, .ref 34], w4)) 2 rfl).trans <|
    (runs_callVf (rv := some (.int r5)) (w' := w5) rfl rfl rfl rfl h10).trans <|
    (runs_stps (q' := (59, [.ref 34, .int (x1 + 1), .null], [], w5)) 3 rfl).trans <|
    rfl
theorem p_X9_school_59FFFTTT_L59 {ex : Ex} {x1 : Int32} {v2 : Value} {r1 : Int32} {w1 : Wd} {r2 : Int32} {w2 : Wd} {r3 : Int32} {w3 : Wd} {r4 : Int32} {w4 : Wd} {r5 : Int32} {w5 : Wd} {w : Wd} (h1 : ex 144 [.ref 34] w = some (some (.int r1), w1)) (h2 : ¬ r1 = 0) (h3 : ¬ (w1.1 34 5) = 0) (h4 : (w1.1 34 5) = 1) (h5 : ex 147 [.ref 34] w1 = some (some (.int r2), w2)) (h6 : r2 = 0) (h7 : ex 145 [.ref 34, .int 0] w2 = some (some (.int r3), w3)) (h8 : ex 144 [.ref 34] w3 = some (some (.int r4), w4)) (h9 : r4 = 0) (h10 : ¬ (w4.1 34 5) = 3) (h11 : ex 145 [.ref 34, .int 0] w4 = some (some (.int r5), w5)) : runs (T_X9_school ex) (59, [.ref 34, .int x1, v2], [], w) = runs (T_X9_school ex) (59, [.ref 34, .int (x1 + 1), .null], [], w5) := 
    (runs_stps (q' := (60, [.ref 34, .int x1, .null], [.ref 34], w)) 1 rfl).trans <|
    (runs_callV (rv := some (.int r1)) (w' := w1) rfl rfl rfl rfl h1).trans <|
    (runs_if_f (a := 134) (b := 66) (L := [.ref 34, .int x1, .null]) (st := []) (w := w1) rfl h2).trans <|
    (runs_stps (q' := (70, [.ref 34, .int x1, .null], [.int (w1.1 34 5)], w1)) 2 rfl).trans <|
    (runs_if_f (a := 134) (b := 73) (L := [.ref 34, .int x1, .null]) (st := []) (w := w1) rfl h3).trans <|
    (runs_stps (q' := (79, [.ref 34, .int x1, .null], [.int 1, .int (w1.1 34 5), .ref 34], w1)) 4 rfl).trans <|
    (runs_if_t (a := 82) (b := 93) (L := [.ref 34, .int x1, .null]) (st := [.ref 34]) (w := w1) rfl h4).trans <|
    (runs_stps (q' := (83, [.ref 34, .int x1, .null], [.ref 34, .ref 34], w1)) 1 rfl).trans <|
    (runs_callV (rv := some (.int r2)) (w' := w2) rfl rfl rfl rfl h5).trans <|
    (runs_if_t (a := 93) (b := 89) (L := [.ref 34, .int x1, .null]) (st := [.ref 34]) (w := w2) rfl h6).trans <|
    (runs_stps (q' := (94, [.ref 34, .int x1, .null], [.int 0, .ref 34], w2)) 1 rfl).trans <|
    (runs_callVf (rv := some (.int r3)) (w' := w3) rfl rfl rfl rfl h7).trans <|
    (runs_stps (q' := (99, [.ref 34, .int x1, .int r3], [.ref 34], w3)) 2 rfl).trans <|
    (runs_callV (rv := some (.int r4)) (w' := w4) rfl rfl rfl rfl h8).trans <|
    (runs_if_t (a := 110) (b := 105) (L := [.ref 34, .int x1, .int r3]) (st := []) (w := w4) rfl h9).trans <|
    (runs_stps (q' := (116, [.ref 34, .int x1, .null], [.int 3, .int (w4.1 34 5), .ref 34], w4)) 4 rfl).trans <|
    (runs_if_f (a := 119) (b := 123) (L := [.ref 34, .int x1, .null]) (st := [.ref 34]) (w := w4) rfl h10).trans <|
    (runs_stps (q' := (124, [.ref 34, .int x1, .null], [.int 0, .ref 34], w4)) 1 rfl).trans <|
    (runs_callVf (rv := some (.int r5)) (w' := w5) rfl rfl rfl rfl h11).trans <|
    (runs_stps (q' := (59, [.ref 34, .int (x1 + 1), .null], [], w5)) 3 rfl).trans <|
    rfl
theorem p_X9_school_59FFFTTF_L59 {ex : Ex} {x1 : Int32} {v2 : Value} {r1 : Int32} {w1 : Wd} {r2 : Int32} {w2 : Wd} {r3 : Int32} {w3 : Wd} {r4 : Int32} {w4 : Wd} {r5 : Int32} {w5 : Wd} {w : Wd} (h1 : ex 144 [.ref 34] w = some (some (.int r1), w1)) (h2 : ¬ r1 = 0) (h3 : ¬ (w1.1 34 5) = 0) (h4 : (w1.1 34 5) = 1) (h5 : ex 147 [.ref 34] w1 = some (some (.int r2), w2)) (h6 : r2 = 0) (h7 : ex 145 [.ref 34, .int 0] w2 = some (some (.int r3), w3)) (h8 : ex 144 [.ref 34] w3 = some (some (.int r4), w4)) (h9 : r4 = 0) (h10 : (w4.1 34 5) = 3) (h11 : ex 145 [.ref 34, .int 1] w4 = some (some (.int r5), w5)) : runs (T_X9_school ex) (59, [.ref 34, .int x1, v2], [], w) = runs (T_X9_school ex) (59, [.ref 34, .int (x1 + 1), .null], [], w5) := 
    (runs_stps (q' := (60, [.ref 34, .int x1, .null], [.ref 34], w)) 1 rfl).trans <|
    (runs_callV (rv := some (.int r1)) (w' := w1) rfl rfl rfl rfl h1).trans <|
    (runs_if_f (a := 134) (b := 66) (L := [.ref 34, .int x1, .null]) (st := []) (w := w1) rfl h2).trans <|
    (runs_stps (q' := (70, [.ref 34, .int x1, .null], [.int (w1.1 34 5)], w1)) 2 rfl).trans <|
    (runs_if_f (a := 134) (b := 73) (L := [.ref 34, .int x1, .null]) (st := []) (w := w1) rfl h3).trans <|
    (runs_stps (q' := (79, [.ref 34, .int x1, .null], [.int 1, .int (w1.1 34 5), .ref 34], w1)) 4 rfl).trans <|
    (runs_if_t (a := 82) (b := 93) (L := [.ref 34, .int x1, .null]) (st := [.ref 34]) (w := w1) rfl h4).trans <|
    (runs_stps (q' := (83, [.ref 34, .int x1, .null], [.ref 34, .ref 34], w1)) 1 rfl).trans <|
    (runs_callV (rv := some (.int r2)) (w' := w2) rfl rfl rfl rfl h5).trans <|
    (runs_if_t (a := 93) (b := 89) (L := [.ref 34, .int x1, .null]) (st := [.ref 34]) (w := w2) rfl h6).trans <|
    (runs_stps (q' := (94, [.ref 34, .int x1, .null], [.int 0, .ref 34], w2)) 1 rfl).trans <|
    (runs_callVf (rv := some (.int r3)) (w' := w3) rfl rfl rfl rfl h7).trans <|
    (runs_stps (q' := (99, [.ref 34, .int x1, .int r3], [.ref 34], w3)) 2 rfl).trans <|
    (runs_callV (rv := some (.int r4)) (w' := w4) rfl rfl rfl rfl h8).trans <|
    (runs_if_t (a := 110) (b := 105) (L := [.ref 34, .int x1, .int r3]) (st := []) (w := w4) rfl h9).trans <|
    (runs_stps (q' := (116, [.ref 34, .int x1, .null], [.int 3, .int (w4.1 34 5), .ref 34], w4)) 4 rfl).trans <|
    (runs_if_t (a := 119) (b := 123) (L := [.ref 34, .int x1, .null]) (st := [.ref 34]) (w := w4) rfl h10).trans <|
    (runs_stps (q' := (124, [.ref 34, .int x1, .null], [.int 1, .ref 34], w4)) 2 rfl).trans <|
    (runs_callVf (rv := some (.int r5)) (w' := w5) rfl rfl rfl rfl h11).trans <|
    (runs_stps (q' := (59, [.ref 34, .int (x1 + 1), .null], [], w5)) 3 rfl).trans <|
    rfl
theorem p_X9_school_59FFFTFT_L59 {ex : Ex} {x1 : Int32} {v2 : Value} {r1 : Int32} {w1 : Wd} {r2 : Int32} {w2 : Wd} {r3 : Int32} {w3 : Wd} {r4 : Int32} {w4 : Wd} {w5 : Wd} {r6 : Int32} {w6 : Wd} {w : Wd} (h1 : ex 144 [.ref 34] w = some (some (.int r1), w1)) (h2 : ¬ r1 = 0) (h3 : ¬ (w1.1 34 5) = 0) (h4 : (w1.1 34 5) = 1) (h5 : ex 147 [.ref 34] w1 = some (some (.int r2), w2)) (h6 : r2 = 0) (h7 : ex 145 [.ref 34, .int 0] w2 = some (some (.int r3), w3)) (h8 : ex 144 [.ref 34] w3 = some (some (.int r4), w4)) (h9 : ¬ r4 = 0) (h10 : ex 148 [.ref 34, .int r3] w4 = some (none, w5)) (h11 : ¬ (w5.1 34 5) = 3) (h12 : ex 145 [.ref 34, .int 0] w5 = some (some (.int r6), w6)) : runs (T_X9_school ex) (59, [.ref 34, .int x1, v2], [], w) = runs (T_X9_school ex) (59, [.ref 34, .int (x1 + 1), .null], [], w6) := 
    (runs_stps (q' := (60, [.ref 34, .int x1, .null], [.ref 34], w)) 1 rfl).trans <|
    (runs_callV (rv := some (.int r1)) (w' := w1) rfl rfl rfl rfl h1).trans <|
    (runs_if_f (a := 134) (b := 66) (L := [.ref 34, .int x1, .null]) (st := []) (w := w1) rfl h2).trans <|
    (runs_stps (q' := (70, [.ref 34, .int x1, .null], [.int (w1.1 34 5)], w1)) 2 rfl).trans <|
    (runs_if_f (a := 134) (b := 73) (L := [.ref 34, .int x1, .null]) (st := []) (w := w1) rfl h3).trans <|
    (runs_stps (q' := (79, [.ref 34, .int x1, .null], [.int 1, .int (w1.1 34 5), .ref 34], w1)) 4 rfl).trans <|
    (runs_if_t (a := 82) (b := 93) (L := [.ref 34, .int x1, .null]) (st := [.ref 34]) (w := w1) rfl h4).trans <|
    (runs_stps (q' := (83, [.ref 34, .int x1, .null], [.ref 34, .ref 34], w1)) 1 rfl).trans <|
    (runs_callV (rv := some (.int r2)) (w' := w2) rfl rfl rfl rfl h5).trans <|
    (runs_if_t (a := 93) (b := 89) (L := [.ref 34, .int x1, .null]) (st := [.ref 34]) (w := w2) rfl h6).trans <|
    (runs_stps (q' := (94, [.ref 34, .int x1, .null], [.int 0, .ref 34], w2)) 1 rfl).trans <|
    (runs_callVf (rv := some (.int r3)) (w' := w3) rfl rfl rfl rfl h7).trans <|
    (runs_stps (q' := (99, [.ref 34, .int x1, .int r3], [.ref 34], w3)) 2 rfl).trans <|
    (runs_callV (rv := some (.int r4)) (w' := w4) rfl rfl rfl rfl h8).trans <|
    (runs_if_f (a := 110) (b := 105) (L := [.ref 34, .int x1, .int r3]) (st := []) (w := w4) rfl h9).trans <|
    (runs_stps (q' := (107, [.ref 34, .int x1, .int r3], [.int r3, .ref 34], w4)) 2 rfl).trans <|
    (runs_callV (rv := none) (w' := w5) rfl rfl rfl rfl h10).trans <|
    (runs_stps (q' := (116, [.ref 34, .int x1, .null], [.int 3, .int (w5.1 34 5), .ref 34], w5)) 4 rfl).trans <|
    (runs_if_f (a := 119) (b := 123) (L := [.ref 34, .int x1, .null]) (st := [.ref 34]) (w := w5) rfl h11).trans <|
    (runs_stps (q' := (124, [.ref 34, .int x1, .null], [.int 0, .ref 34], w5)) 1 rfl).trans <|
    (runs_callVf (rv := some (.int r6)) (w' := w6) rfl rfl rfl rfl h12).trans <|
    (runs_stps (q' := (59, [.ref 34, .int (x1 + 1), .null], [], w6)) 3 rfl).trans <|
    rfl
theorem p_X9_school_59FFFTFF_L59 {ex : Ex} {x1 : Int32} {v2 : Value} {r1 : Int32} {w1 : Wd} {r2 : Int32} {w2 : Wd} {r3 : Int32} {w3 : Wd} {r4 : Int32} {w4 : Wd} {w5 : Wd} {r6 : Int32} {w6 : Wd} {w : Wd} (h1 : ex 144 [.ref 34] w = some (some (.int r1), w1)) (h2 : ¬ r1 = 0) (h3 : ¬ (w1.1 34 5) = 0) (h4 : (w1.1 34 5) = 1) (h5 : ex 147 [.ref 34] w1 = some (some (.int r2), w2)) (h6 : r2 = 0) (h7 : ex 145 [.ref 34, .int 0] w2 = some (some (.int r3), w3)) (h8 : ex 144 [.ref 34] w3 = some (some (.int r4), w4)) (h9 : ¬ r4 = 0) (h10 : ex 148 [.ref 34, .int r3] w4 = some (none, w5)) (h11 : (w5.1 34 5) = 3) (h12 : ex 145 [.ref 34, .int 1] w5 = some (some (.int r6), w6)) : runs (T_X9_school ex) (59, [.ref 34, .int x1, v2], [], w) = runs (T_X9_school ex) (59, [.ref 34, .int (x1 + 1), .null], [], w6) := 
    (runs_stps (q' := (60, [.ref 34, .int x1, .null], [.ref 34], w)) 1 rfl).trans <|
    (runs_callV (rv := some (.int r1)) (w' := w1) rfl rfl rfl rfl h1).trans <|
    (runs_if_f (a := 134) (b := 66) (L := [.ref 34, .int x1, .null]) (st := []) (w := w1) rfl h2).trans <|
    (runs_stps (q' := (70, [.ref 34, .int x1, .null], [.int (w1.1 34 5)], w1)) 2 rfl).trans <|
    (runs_if_f (a := 134) (b := 73) (L := [.ref 34, .int x1, .null]) (st := []) (w := w1) rfl h3).trans <|
    (runs_stps (q' := (79, [.ref 34, .int x1, .null], [.int 1, .int (w1.1 34 5), .ref 34], w1)) 4 rfl).trans <|
    (runs_if_t (a := 82) (b := 93) (L := [.ref 34, .int x1, .null]) (st := [.ref 34]) (w := w1) rfl h4).trans <|
    (runs_stps (q' := (83, [.ref 34, .int x1, .null], [.ref 34, .ref 34], w1)) 1 rfl).trans <|
    (runs_callV (rv := some (.int r2)) (w' := w2) rfl rfl rfl rfl h5).trans <|
    (runs_if_t (a := 93) (b := 89) (L := [.ref 34, .int x1, .null]) (st := [.ref 34]) (w := w2) rfl h6).trans <|
    (runs_stps (q' := (94, [.ref 34, .int x1, .null], [.int 0, .ref 34], w2)) 1 rfl).trans <|
    (runs_callVf (rv := some (.int r3)) (w' := w3) rfl rfl rfl rfl h7).trans <|
    (runs_stps (q' := (99, [.ref 34, .int x1, .int r3], [.ref 34], w3)) 2 rfl).trans <|
    (runs_callV (rv := some (.int r4)) (w' := w4) rfl rfl rfl rfl h8).trans <|
    (runs_if_f (a := 110) (b := 105) (L := [.ref 34, .int x1, .int r3]) (st := []) (w := w4) rfl h9).trans <|
    (runs_stps (q' := (107, [.ref 34, .int x1, .int r3], [.int r3, .ref 34], w4)) 2 rfl).trans <|
    (runs_callV (rv := none) (w' := w5) rfl rfl rfl rfl h10).trans <|
    (runs_stps (q' := (116, [.ref 34, .int x1, .null], [.int 3, .int (w5.1 34 5), .ref 34], w5)) 4 rfl).trans <|
    (runs_if_t (a := 119) (b := 123) (L := [.ref 34, .int x1, .null]) (st := [.ref 34]) (w := w5) rfl h11).trans <|
    (runs_stps (q' := (124, [.ref 34, .int x1, .null], [.int 1, .ref 34], w5)) 2 rfl).trans <|
    (runs_callVf (rv := some (.int r6)) (w' := w6) rfl rfl rfl rfl h12).trans <|
    (runs_stps (q' := (59, [.ref 34, .int (x1 + 1), .null], [], w6)) 3 rfl).trans <|
    rfl
theorem p_X9_school_59FFFFTT_L59 {ex : Ex} {x1 : Int32} {v2 : Value} {r1 : Int32} {w1 : Wd} {r2 : Int32} {w2 : Wd} {r3 : Int32} {w3 : Wd} {r4 : Int32} {w4 : Wd} {r5 : Int32} {w5 : Wd} {w : Wd} (h1 : ex 144 [.ref 34] w = some (some (.int r1), w1)) (h2 : ¬ r1 = 0) (h3 : ¬ (w1.1 34 5) = 0) (h4 : (w1.1 34 5) = 1) (h5 : ex 147 [.ref 34] w1 = some (some (.int r2), w2)) (h6 : ¬ r2 = 0) (h7 : ex 145 [.ref 34, .int 1] w2 = some (some (.int r3), w3)) (h8 : ex 144 [.ref 34] w3 = some (some (.int r4), w4)) (h9 : r4 = 0) (h10 : ¬ (w4.1 34 5) = 3) (h11 : ex 145 [.ref 34, .int 0] w4 = some (some (.int r5), w5)) : runs (T_X9_school ex) (59, [.ref 34, .int x1, v2], [], w) = runs (T_X9_school ex) (59, [.ref 34, .int (x1 + 1), .null], [], w5) := 
    (runs_stps (q' := (60, [.ref 34, .int x1, .null], [.ref 34], w)) 1 rfl).trans <|
    (runs_callV (rv := some (.int r1)) (w' := w1) rfl rfl rfl rfl h1).trans <|
    (runs_if_f (a := 134) (b := 66) (L := [.ref 34, .int x1, .null]) (st := []) (w := w1) rfl h2).trans <|
    (runs_stps (q' := (70, [.ref 34, .int x1, .null], [.int (w1.1 34 5)], w1)) 2 rfl).trans <|
    (runs_if_f (a := 134) (b := 73) (L := [.ref 34, .int x1, .null]) (st := []) (w := w1) rfl h3).trans <|
    (runs_stps (q' := (79, [.ref 34, .int x1, .null], [.int 1, .int (w1.1 34 5), .ref 34], w1)) 4 rfl).trans <|
    (runs_if_t (a := 82) (b := 93) (L := [.ref 34, .int x1, .null]) (st := [.ref 34]) (w := w1) rfl h4).trans <|
    (runs_stps (q' := (83, [.ref 34, .int x1, .null], [.ref 34, .ref 34], w1)) 1 rfl).trans <|
    (runs_callV (rv := some (.int r2)) (w' := w2) rfl rfl rfl rfl h5).trans <|
    (runs_if_f (a := 93) (b := 89) (L := [.ref 34, .int x1, .null]) (st := [.ref 34]) (w := w2) rfl h6).trans <|
    (runs_stps (q' := (94, [.ref 34, .int x1, .null], [.int 1, .ref 34], w2)) 2 rfl).trans <|
    (runs_callVf (rv := some (.int r3)) (w' := w3) rfl rfl rfl rfl h7).trans <|
    (runs_stps (q' := (99, [.ref 34, .int x1, .int r3], [.ref 34], w3)) 2 rfl).trans <|
    (runs_callV (rv := some (.int r4)) (w' := w4) rfl rfl rfl rfl h8).trans <|
    (runs_if_t (a := 110) (b := 105) (L := [.ref 34, .int x1, .int r3]) (st := []) (w := w4) rfl h9).trans <|
    (runs_stps (q' := (116, [.ref 34, .int x1, .null], [.int 3, .int (w4.1 34 5), .ref 34], w4)) 4 rfl).trans <|
    (runs_if_f (a := 119) (b := 123) (L := [.ref 34, .int x1, .null]) (st := [.ref 34]) (w := w4) rfl h10).trans <|
    (runs_stps (q' := (124, [.ref 34, .int x1, .null], [.int 0, .ref 34], w4)) 1 rfl).trans <|
    (runs_callVf (rv := some (.int r5)) (w' := w5) rfl rfl rfl rfl h11).trans <|
    (runs_stps (q' := (59, [.ref 34, .int (x1 + 1), .null], [], w5)) 3 rfl).trans <|
    rfl
theorem p_X9_school_59FFFFTF_L59 {ex : Ex} {x1 : Int32} {v2 : Value} {r1 : Int32} {w1 : Wd} {r2 : Int32} {w2 : Wd} {r3 : Int32} {w3 : Wd} {r4 : Int32} {w4 : Wd} {r5 : Int32} {w5 : Wd} {w : Wd} (h1 : ex 144 [.ref 34] w = some (some (.int r1), w1)) (h2 : ¬ r1 = 0) (h3 : ¬ (w1.1 34 5) = 0) (h4 : (w1.1 34 5) = 1) (h5 : ex 147 [.ref 34] w1 = some (some (.int r2), w2)) (h6 : ¬ r2 = 0) (h7 : ex 145 [.ref 34, .int 1] w2 = some (some (.int r3), w3)) (h8 : ex 144 [.ref 34] w3 = some (some (.int r4), w4)) (h9 : r4 = 0) (h10 : (w4.1 34 5) = 3) (h11 : ex 145 [.ref 34, .int 1] w4 = some (some (.int r5), w5)) : runs (T_X9_school ex) (59, [.ref 34, .int x1, v2], [], w) = runs (T_X9_school ex) (59, [.ref 34, .int (x1 + 1), .null], [], w5) := 
    (runs_stps (q' := (60, [.ref 34, .int x1, .null], [.ref 34], w)) 1 rfl).trans <|
    (runs_callV (rv := some (.int r1)) (w' := w1) rfl rfl rfl rfl h1).trans <|
    (runs_if_f (a := 134) (b := 66) (L := [.ref 34, .int x1, .null]) (st := []) (w := w1) rfl h2).trans <|
    (runs_stps (q' := (70, [.ref 34, .int x1, .null], [.int (w1.1 34 5)], w1)) 2 rfl).trans <|
    (runs_if_f (a := 134) (b := 73) (L := [.ref 34, .int x1, .null]) (st := []) (w := w1) rfl h3).trans <|
    (runs_stps (q' := (79, [.ref 34, .int x1, .null], [.int 1, .int (w1.1 34 5), .ref 34], w1)) 4 rfl).trans <|
    (runs_if_t (a := 82) (b := 93) (L := [.ref 34, .int x1, .null]) (st := [.ref 34]) (w := w1) rfl h4).trans <|
    (runs_stps (q' := (83, [.ref 34, .int x1, .null], [.ref 34, .ref 34], w1)) 1 rfl).trans <|
    (runs_callV (rv := some (.int r2)) (w' := w2) rfl rfl rfl rfl h5).trans <|
    (runs_if_f (a := 93) (b := 89) (L := [.ref 34, .int x1, .null]) (st := [.ref 34]) (w := w2) rfl h6).trans <|
    (runs_stps (q' := (94, [.ref 34, .int x1, .null], [.int 1, .ref 34], w2)) 2 rfl).trans <|
    (runs_callVf (rv := some (.int r3)) (w' := w3) rfl rfl rfl rfl h7).trans <|
    (runs_stps (q' := (99, [.ref 34, .int x1, .int r3], [.ref 34], w3)) 2 rfl).trans <|
    (runs_callV (rv := some (.int r4)) (w' := w4) rfl rfl rfl rfl h8).trans <|
    (runs_if_t (a := 110) (b := 105) (L := [.ref 34, .int x1, .int r3]) (st := []) (w := w4) rfl h9).trans <|
    (runs_stps (q' := (116, [.ref 34, .int x1, .null], [.int 3, .int (w4.1 34 5), .ref 34], w4)) 4 rfl).trans <|
    (runs_if_t (a := 119) (b := 123) (L := [.ref 34, .int x1, .null]) (st := [.ref 34]) (w := w4) rfl h10).trans <|
    (runs_stps (q' := (124, [.ref 34, .int x1, .null], [.int 1, .ref 34], w4)) 2 rfl).trans <|
    (runs_callVf (rv := some (.int r5)) (w' := w5) rfl rfl rfl rfl h11).trans <|
    (runs_stps (q' := (59, [.ref 34, .int (x1 + 1), .null], [], w5)) 3 rfl).trans <|
    rfl
theorem p_X9_school_59FFFFFT_L59 {ex : Ex} {x1 : Int32} {v2 : Value} {r1 : Int32} {w1 : Wd} {r2 : Int32} {w2 : Wd} {r3 : Int32} {w3 : Wd} {r4 : Int32} {w4 : Wd} {w5 : Wd} {r6 : Int32} {w6 : Wd} {w : Wd} (h1 : ex 144 [.ref 34] w = some (some (.int r1), w1)) (h2 : ¬ r1 = 0) (h3 : ¬ (w1.1 34 5) = 0) (h4 : (w1.1 34 5) = 1) (h5 : ex 147 [.ref 34] w1 = some (some (.int r2), w2)) (h6 : ¬ r2 = 0) (h7 : ex 145 [.ref 34, .int 1] w2 = some (some (.int r3), w3)) (h8 : ex 144 [.ref 34] w3 = some (some (.int r4), w4)) (h9 : ¬ r4 = 0) (h10 : ex 148 [.ref 34, .int r3] w4 = some (none, w5)) (h11 : ¬ (w5.1 34 5) = 3) (h12 : ex 145 [.ref 34, .int 0] w5 = some (some (.int r6), w6)) : runs (T_X9_school ex) (59, [.ref 34, .int x1, v2], [], w) = runs (T_X9_school ex) (59, [.ref 34, .int (x1 + 1), .null], [], w6) := 
    (runs_stps (q' := (60, [.ref 34, .int x1, .null], [.ref 34], w)) 1 rfl).trans <|
    (runs_callV (rv := some (.int r1)) (w' := w1) rfl rfl rfl rfl h1).trans <|
    (runs_if_f (a := 134) (b := 66) (L := [.ref 34, .int x1, .null]) (st := []) (w := w1) rfl h2).trans <|
    (runs_stps (q' := (70, [.ref 34, .int x1, .null], [.int (w1.1 34 5)], w1)) 2 rfl).trans <|
    (runs_if_f (a := 134) (b := 73) (L := [.ref 34, .int x1, .null]) (st := []) (w := w1) rfl h3).trans <|
    (runs_stps (q' := (79, [.ref 34, .int x1, .null], [.int 1, .int (w1.1 34 5), .ref 34], w1)) 4 rfl).trans <|
    (runs_if_t (a := 82) (b := 93) (L := [.ref 34, .int x1, .null]) (st := [.ref 34]) (w := w1) rfl h4).trans <|
    (runs_stps (q' := (83, [.ref 34, .int x1, .null], [.ref 34, .ref 34], w1)) 1 rfl).trans <|
    (runs_callV (rv := some (.int r2)) (w' := w2) rfl rfl rfl rfl h5).trans <|
    (runs_if_f (a := 93) (b := 89) (L := [.ref 34, .int x1, .null]) (st := [.ref 34]) (w := w2) rfl h6).trans <|
    (runs_stps (q' := (94, [.ref 34, .int x1, .null], [.int 1, .ref 34], w2)) 2 rfl).trans <|
    (runs_callVf (rv := some (.int r3)) (w' := w3) rfl rfl rfl rfl h7).trans <|
    (runs_stps (q' := (99, [.ref 34, .int x1, .int r3], [.ref 34], w3)) 2 rfl).trans <|
    (runs_callV (rv := some (.int r4)) (w' := w4) rfl rfl rfl rfl h8).trans <|
    (runs_if_f (a := 110) (b := 105) (L := [.ref 34, .int x1, .int r3]) (st := []) (w := w4) rfl h9).trans <|
    (runs_stps (q' := (107, [.ref 34, .int x1, .int r3], [.int r3, .ref 34], w4)) 2 rfl).trans <|
    (runs_callV (rv := none) (w' := w5) rfl rfl rfl rfl h10).trans <|
    (runs_stps (q' := (116, [.ref 34, .int x1, .null], [.int 3, .int (w5.1 34 5), .ref 34], w5)) 4 rfl).trans <|
    (runs_if_f (a := 119) (b := 123) (L := [.ref 34, .int x1, .null]) (st := [.ref 34]) (w := w5) rfl h11).trans <|
    (runs_stps (q' := (124, [.ref 34, .int x1, .null], [.int 0, .ref 34], w5)) 1 rfl).trans <|
    (runs_callVf (rv := some (.int r6)) (w' := w6) rfl rfl rfl rfl h12).trans <|
    (runs_stps (q' := (59, [.ref 34, .int (x1 + 1), .null], [], w6)) 3 rfl).trans <|
    rfl
theorem p_X9_school_59FFFFFF_L59 {ex : Ex} {x1 : Int32} {v2 : Value} {r1 : Int32} {w1 : Wd} {r2 : Int32} {w2 : Wd} {r3 : Int32} {w3 : Wd} {r4 : Int32} {w4 : Wd} {w5 : Wd} {r6 : Int32} {w6 : Wd} {w : Wd} (h1 : ex 144 [.ref 34] w = some (some (.int r1), w1)) (h2 : ¬ r1 = 0) (h3 : ¬ (w1.1 34 5) = 0) (h4 : (w1.1 34 5) = 1) (h5 : ex 147 [.ref 34] w1 = some (some (.int r2), w2)) (h6 : ¬ r2 = 0) (h7 : ex 145 [.ref 34, .int 1] w2 = some (some (.int r3), w3)) (h8 : ex 144 [.ref 34] w3 = some (some (.int r4), w4)) (h9 : ¬ r4 = 0) (h10 : ex 148 [.ref 34, .int r3] w4 = some (none, w5)) (h11 : (w5.1 34 5) = 3) (h12 : ex 145 [.ref 34, .int 1] w5 = some (some (.int r6), w6)) : runs (T_X9_school ex) (59, [.ref 34, .int x1, v2], [], w) = runs (T_X9_school ex) (59, [.ref 34, .int (x1 + 1), .null], [], w6) := 
    (runs_stps (q' := (60, [.ref 34, .int x1, .null], [.ref 34], w)) 1 rfl).trans <|
    (runs_callV (rv := some (.int r1)) (w' := w1) rfl rfl rfl rfl h1).trans <|
    (runs_if_f (a := 134) (b := 66) (L := [.ref 34, .int x1, .null]) (st := []) (w := w1) rfl h2).trans <|
    (runs_stps (q' := (70, [.ref 34, .int x1, .null], [.int (w1.1 34 5)], w1)) 2 rfl).trans <|
    (runs_if_f (a := 134) (b := 73) (L := [.ref 34, .int x1, .null]) (st := []) (w := w1) rfl h3).trans <|
    (runs_stps (q' := (79, [.ref 34, .int x1, .null], [.int 1, .int (w1.1 34 5), .ref 34], w1)) 4 rfl).trans <|
    (runs_if_t (a := 82) (b := 93) (L := [.ref 34, .int x1, .null]) (st := [.ref 34]) (w := w1) rfl h4).trans <|
    (runs_stps (q' := (83, [.ref 34, .int x1, .null], [.ref 34, .ref 34], w1)) 1 rfl).trans <|
    (runs_callV (rv := some (.int r2)) (w' := w2) rfl rfl rfl rfl h5).trans <|
    (runs_if_f (a := 93) (b := 89) (L := [.ref 34, .int x1, .null]) (st := [.ref 34]) (w := w2) rfl h6).trans <|
    (runs_stps (q' := (94, [.ref 34, .int x1, .null], [.int 1, .ref 34], w2)) 2 rfl).trans <|
    (runs_callVf (rv := some (.int r3)) (w' := w3) rfl rfl rfl rfl h7).trans <|
    (runs_stps (q' := (99, [.ref 34, .int x1, .int r3], [.ref 34], w3)) 2 rfl).trans <|
    (runs_callV (rv := some (.int r4)) (w' := w4) rfl rfl rfl rfl h8).trans <|
    (runs_if_f (a := 110) (b := 105) (L := [.ref 34, .int x1, .int r3]) (st := []) (w := w4) rfl h9).trans <|
    (runs_stps (q' := (107, [.ref 34, .int x1, .int r3], [.int r3, .ref 34], w4)) 2 rfl).trans <|
    (runs_callV (rv := none) (w' := w5) rfl rfl rfl rfl h10).trans <|
    (runs_stps (q' := (116, [.ref 34, .int x1, .null], [.int 3, .int (w5.1 34 5), .ref 34], w5)) 4 rfl).trans <|
    (runs_if_t (a := 119) (b := 123) (L := [.ref 34, .int x1, .null]) (st := [.ref 34]) (w := w5) rfl h11).trans <|
    (runs_stps (q' := (124, [.ref 34, .int x1, .null], [.int 1, .ref 34], w5)) 2 rfl).trans <|
    (runs_callVf (rv := some (.int r6)) (w' := w6) rfl rfl rfl rfl h12).trans <|
    (runs_stps (q' := (59, [.ref 34, .int (x1 + 1), .null], [], w6)) 3 rfl).trans <|
    rfl
theorem p_X9_settles_0_L26 {ex : Ex} {w : Wd} : runs (T_X9_settles ex) (0, [.ref 34, .null], [], w) = runs (T_X9_settles ex) (26, [.ref 34, .int 0], [], updI (updI (updI w 34 13 (w.1 34 16)) 34 14 (w.1 34 17)) 34 15 (w.1 34 18)) := 
    (runs_stps (q' := (26, [.ref 34, .int 0], [], updI (updI (updI w 34 13 (w.1 34 16)) 34 14 (w.1 34 17)) 34 15 (w.1 34 18))) 14 rfl).trans <|
    rfl
theorem p_X9_settles_26T_L55 {ex : Ex} {x1 : Int32} {w : Wd} (h1 : 20 ≤ x1) : runs (T_X9_settles ex) (26, [.ref 34, .int x1], [], w) = runs (T_X9_settles ex) (55, [.ref 34, .int 0], [], w) := 
    (runs_stps (q' := (29, [.ref 34, .int x1], [.int 20, .int x1], w)) 2 rfl).trans <|
    (runs_if_t (a := 53) (b := 32) (L := [.ref 34, .int x1]) (st := []) (w := w) rfl h1).trans <|
    (runs_stps (q' := (55, [.ref 34, .int 0], [], w)) 2 rfl).trans <|
    rfl
theorem p_X9_settles_26F_L26 {ex : Ex} {x1 : Int32} {w : Wd} (h1 : ¬ 20 ≤ x1) (h2 : vp_in (20 + x1) 40) (h3 : vp_in x1 40) : runs (T_X9_settles ex) (26, [.ref 34, .int x1], [], w) = runs (T_X9_settles ex) (26, [.ref 34, .int (x1 + 1)], [], updI w 36 x1.toNatClampNeg (w.1 36 ((20 + x1).toNatClampNeg))) := 
    (runs_stps (q' := (29, [.ref 34, .int x1], [.int 20, .int x1], w)) 2 rfl).trans <|
    (runs_if_f (a := 53) (b := 32) (L := [.ref 34, .int x1]) (st := []) (w := w) rfl h1).trans <|
    (runs_stps (q' := (45, [.ref 34, .int x1], [.int (20 + x1), .ref 36, .int x1, .ref 36], w)) 8 rfl).trans <|
    (runs_ck (q' := (46, [.ref 34, .int x1], [.int (w.1 36 ((20 + x1).toNatClampNeg)), .int x1, .ref 36], w)) rfl h2).trans <|
    (runs_ck (q' := (47, [.ref 34, .int x1], [], updI w 36 x1.toNatClampNeg (w.1 36 ((20 + x1).toNatClampNeg)))) rfl h3).trans <|
    (runs_stps (q' := (26, [.ref 34, .int (x1 + 1)], [], updI w 36 x1.toNatClampNeg (w.1 36 ((20 + x1).toNatClampNeg)))) 2 rfl).trans <|
    rfl
theorem p_X9_settles_55T_L82 {ex : Ex} {x1 : Int32} {w : Wd} (h1 : 3 ≤ x1) : runs (T_X9_settles ex) (55, [.ref 34, .int x1], [], w) = runs (T_X9_settles ex) (82, [.ref 34, .int 0], [], w) := 
    (runs_stps (q' := (57, [.ref 34, .int x1], [.int 3, .int x1], w)) 2 rfl).trans <|
    (runs_if_t (a := 80) (b := 60) (L := [.ref 34, .int x1]) (st := []) (w := w) rfl h1).trans <|
    (runs_stps (q' := (82, [.ref 34, .int 0], [], w)) 2 rfl).trans <|
    rfl
theorem p_X9_settles_55F_L55 {ex : Ex} {x1 : Int32} {w : Wd} (h1 : ¬ 3 ≤ x1) (h2 : vp_in (3 + x1) 6) (h3 : vp_in x1 6) : runs (T_X9_settles ex) (55, [.ref 34, .int x1], [], w) = runs (T_X9_settles ex) (55, [.ref 34, .int (x1 + 1)], [], updI w 38 x1.toNatClampNeg (w.1 38 ((3 + x1).toNatClampNeg))) := 
    (runs_stps (q' := (57, [.ref 34, .int x1], [.int 3, .int x1], w)) 2 rfl).trans <|
    (runs_if_f (a := 80) (b := 60) (L := [.ref 34, .int x1]) (st := []) (w := w) rfl h1).trans <|
    (runs_stps (q' := (72, [.ref 34, .int x1], [.int (3 + x1), .ref 38, .int x1, .ref 38], w)) 8 rfl).trans <|
    (runs_ck (q' := (73, [.ref 34, .int x1], [.int (w.1 38 ((3 + x1).toNatClampNeg)), .int x1, .ref 38], w)) rfl h2).trans <|
    (runs_ck (q' := (74, [.ref 34, .int x1], [], updI w 38 x1.toNatClampNeg (w.1 38 ((3 + x1).toNatClampNeg)))) rfl h3).trans <|
    (runs_stps (q' := (55, [.ref 34, .int (x1 + 1)], [], updI w 38 x1.toNatClampNeg (w.1 38 ((3 + x1).toNatClampNeg)))) 2 rfl).trans <|
    rfl
theorem p_X9_settles_82T_L121 {ex : Ex} {x1 : Int32} {w : Wd} (h1 : 4 ≤ x1) : runs (T_X9_settles ex) (82, [.ref 34, .int x1], [], w) = runs (T_X9_settles ex) (121, [.ref 34, .int 3], [], w) := 
    (runs_stps (q' := (84, [.ref 34, .int x1], [.int 4, .int x1], w)) 2 rfl).trans <|
    (runs_if_t (a := 119) (b := 87) (L := [.ref 34, .int x1]) (st := []) (w := w) rfl h1).trans <|
    (runs_stps (q' := (121, [.ref 34, .int 3], [], w)) 2 rfl).trans <|
    rfl
theorem p_X9_settles_82FT_L82 {ex : Ex} {x1 : Int32} {w : Wd} (h1 : ¬ 4 ≤ x1) (h2 : (w.1 34 14) ≤ x1) (h3 : vp_in x1 5) : runs (T_X9_settles ex) (82, [.ref 34, .int x1], [], w) = runs (T_X9_settles ex) (82, [.ref 34, .int (x1 + 1)], [], updI w 40 x1.toNatClampNeg 0) := 
    (runs_stps (q' := (84, [.ref 34, .int x1], [.int 4, .int x1], w)) 2 rfl).trans <|
    (runs_if_f (a := 119) (b := 87) (L := [.ref 34, .int x1]) (st := []) (w := w) rfl h1).trans <|
    (runs_stps (q' := (97, [.ref 34, .int x1], [.int (w.1 34 14), .int x1, .int x1, .ref 40], w)) 6 rfl).trans <|
    (runs_if_t (a := 111) (b := 100) (L := [.ref 34, .int x1]) (st := [.int x1, .ref 40]) (w := w) rfl h2).trans <|
    (runs_stps (q' := (112, [.ref 34, .int x1], [.int 0, .int x1, .ref 40], w)) 1 rfl).trans <|
    (runs_ck (q' := (113, [.ref 34, .int x1], [], updI w 40 x1.toNatClampNeg 0)) rfl h3).trans <|
    (runs_stps (q' := (82, [.ref 34, .int (x1 + 1)], [], updI w 40 x1.toNatClampNeg 0)) 2 rfl).trans <|
    rfl
theorem p_X9_settles_82FF_L82 {ex : Ex} {x1 : Int32} {w : Wd} (h1 : ¬ 4 ≤ x1) (h2 : ¬ (w.1 34 14) ≤ x1) (h3 : vp_in (4 + x1) 8) (h4 : vp_in x1 5) : runs (T_X9_settles ex) (82, [.ref 34, .int x1], [], w) = runs (T_X9_settles ex) (82, [.ref 34, .int (x1 + 1)], [], updI w 40 x1.toNatClampNeg (w.1 37 ((4 + x1).toNatClampNeg))) := 
    (runs_stps (q' := (84, [.ref 34, .int x1], [.int 4, .int x1], w)) 2 rfl).trans <|
    (runs_if_f (a := 119) (b := 87) (L := [.ref 34, .int x1]) (st := []) (w := w) rfl h1).trans <|
    (runs_stps (q' := (97, [.ref 34, .int x1], [.int (w.1 34 14), .int x1, .int x1, .ref 40], w)) 6 rfl).trans <|
    (runs_if_f (a := 111) (b := 100) (L := [.ref 34, .int x1]) (st := [.int x1, .ref 40]) (w := w) rfl h2).trans <|
    (runs_stps (q' := (107, [.ref 34, .int x1], [.int (4 + x1), .ref 37, .int x1, .ref 40], w)) 5 rfl).trans <|
    (runs_ck (q' := (108, [.ref 34, .int x1], [.int (w.1 37 ((4 + x1).toNatClampNeg)), .int x1, .ref 40], w)) rfl h3).trans <|
    (runs_stps (q' := (112, [.ref 34, .int x1], [.int (w.1 37 ((4 + x1).toNatClampNeg)), .int x1, .ref 40], w)) 1 rfl).trans <|
    (runs_ck (q' := (113, [.ref 34, .int x1], [], updI w 40 x1.toNatClampNeg (w.1 37 ((4 + x1).toNatClampNeg)))) rfl h4).trans <|
    (runs_stps (q' := (82, [.ref 34, .int (x1 + 1)], [], updI w 40 x1.toNatClampNeg (w.1 37 ((4 + x1).toNatClampNeg)))) 2 rfl).trans <|
    rfl
theorem p_X9_settles_121T_L212 {ex : Ex} {x1 : Int32} {w : Wd} (h1 : 5 < x1) : runs (T_X9_settles ex) (121, [.ref 34, .int x1], [], w) = runs (T_X9_settles ex) (212, [.ref 34, .int 0], [], updI (updI (updI (updI (updI (updI w 40 4 0) 34 3 0) 34 23 0) 34 26 0) 42 0 (vp_nar .boolean 0)) 42 1 (vp_nar .boolean 0)) := 
    (runs_stps (q' := (123, [.ref 34, .int x1], [.int 5, .int x1], w)) 2 rfl).trans <|
    (runs_if_t (a := 174) (b := 126) (L := [.ref 34, .int x1]) (st := []) (w := w) rfl h1).trans <|
    (runs_stps (q' := (212, [.ref 34, .int 0], [], updI (updI (updI (updI (updI (updI w 40 4 0) 34 3 0) 34 23 0) 34 26 0) 42 0 (vp_nar .boolean 0)) 42 1 (vp_nar .boolean 0))) 26 rfl).trans <|
    rfl
theorem p_X9_settles_121FTT_L121 {ex : Ex} {x1 : Int32} {w : Wd} (h1 : ¬ 5 < x1) (h2 : vp_in (6 + x1) 12) (h3 : (w.1 39 ((6 + x1).toNatClampNeg)) = (-9)) (h4 : ¬ x1 = 5) (h5 : vp_in x1 12) : runs (T_X9_settles ex) (121, [.ref 34, .int x1], [], w) = runs (T_X9_settles ex) (121, [.ref 34, .int (x1 + 1)], [], updI w 39 x1.toNatClampNeg 1) := 
    (runs_stps (q' := (123, [.ref 34, .int x1], [.int 5, .int x1], w)) 2 rfl).trans <|
    (runs_if_f (a := 174) (b := 126) (L := [.ref 34, .int x1]) (st := []) (w := w) rfl h1).trans <|
    (runs_stps (q' := (139, [.ref 34, .int x1], [.int (6 + x1), .ref 39, .int x1, .ref 39], w)) 8 rfl).trans <|
    (runs_ck (q' := (140, [.ref 34, .int x1], [.int (w.1 39 ((6 + x1).toNatClampNeg)), .int x1, .ref 39], w)) rfl h2).trans <|
    (runs_stps (q' := (142, [.ref 34, .int x1], [.int (-9), .int (w.1 39 ((6 + x1).toNatClampNeg)), .int x1, .ref 39], w)) 1 rfl).trans <|
    (runs_if_t (a := 157) (b := 145) (L := [.ref 34, .int x1]) (st := [.int x1, .ref 39]) (w := w) rfl h3).trans <|
    (runs_stps (q' := (159, [.ref 34, .int x1], [.int 5, .int x1, .int x1, .ref 39], w)) 2 rfl).trans <|
    (runs_if_f (a := 162) (b := 166) (L := [.ref 34, .int x1]) (st := [.int x1, .ref 39]) (w := w) rfl h4).trans <|
    (runs_stps (q' := (167, [.ref 34, .int x1], [.int 1, .int x1, .ref 39], w)) 1 rfl).trans <|
    (runs_ck (q' := (168, [.ref 34, .int x1], [], updI w 39 x1.toNatClampNeg 1)) rfl h5).trans <|
    (runs_stps (q' := (121, [.ref 34, .int (x1 + 1)], [], updI w 39 x1.toNatClampNeg 1)) 2 rfl).trans <|
    rfl
theorem p_X9_settles_121FTF_L121 {ex : Ex} {x1 : Int32} {w : Wd} (h1 : ¬ 5 < x1) (h2 : vp_in (6 + x1) 12) (h3 : (w.1 39 ((6 + x1).toNatClampNeg)) = (-9)) (h4 : x1 = 5) (h5 : vp_in x1 12) : runs (T_X9_settles ex) (121, [.ref 34, .int x1], [], w) = runs (T_X9_settles ex) (121, [.ref 34, .int (x1 + 1)], [], updI w 39 x1.toNatClampNeg 4) := 
    (runs_stps (q' := (123, [.ref 34, .int x1], [.int 5, .int x1], w)) 2 rfl).trans <|
    (runs_if_f (a := 174) (b := 126) (L := [.ref 34, .int x1]) (st := []) (w := w) rfl h1).trans <|
    (runs_stps (q' := (139, [.ref 34, .int x1], [.int (6 + x1), .ref 39, .int x1, .ref 39], w)) 8 rfl).trans <|
    (runs_ck (q' := (140, [.ref 34, .int x1], [.int (w.1 39 ((6 + x1).toNatClampNeg)), .int x1, .ref 39], w)) rfl h2).trans <|
    (runs_stps (q' := (142, [.ref 34, .int x1], [.int (-9), .int (w.1 39 ((6 + x1).toNatClampNeg)), .int x1, .ref 39], w)) 1 rfl).trans <|
    (runs_if_t (a := 157) (b := 145) (L := [.ref 34, .int x1]) (st := [.int x1, .ref 39]) (w := w) rfl h3).trans <|
    (runs_stps (q' := (159, [.ref 34, .int x1], [.int 5, .int x1, .int x1, .ref 39], w)) 2 rfl).trans <|
    (runs_if_t (a := 162) (b := 166) (L := [.ref 34, .int x1]) (st := [.int x1, .ref 39]) (w := w) rfl h4).trans <|
    (runs_stps (q' := (167, [.ref 34, .int x1], [.int 4, .int x1, .ref 39], w)) 2 rfl).trans <|
    (runs_ck (q' := (168, [.ref 34, .int x1], [], updI w 39 x1.toNatClampNeg 4)) rfl h5).trans <|
    (runs_stps (q' := (121, [.ref 34, .int (x1 + 1)], [], updI w 39 x1.toNatClampNeg 4)) 2 rfl).trans <|
    rfl
theorem p_X9_settles_121FF_L121 {ex : Ex} {x1 : Int32} {w : Wd} (h1 : ¬ 5 < x1) (h2 : vp_in (6 + x1) 12) (h3 : ¬ (w.1 39 ((6 + x1).toNatClampNeg)) = (-9)) (h4 : vp_in (6 + x1) 12) (h5 : vp_in x1 12) : runs (T_X9_settles ex) (121, [.ref 34, .int x1], [], w) = runs (T_X9_settles ex) (121, [.ref 34, .int (x1 + 1)], [], updI w 39 x1.toNatClampNeg (w.1 39 ((6 + x1).toNatClampNeg))) := 
    (runs_stps (q' := (123, [.ref 34, .int x1], [.int 5, .int x1], w)) 2 rfl).trans <|
    (runs_if_f (a := 174) (b := 126) (L := [.ref 34, .int x1]) (st := []) (w := w) rfl h1).trans <|
    (runs_stps (q' := (139, [.ref 34, .int x1], [.int (6 + x1), .ref 39, .int x1, .ref 39], w)) 8 rfl).trans <|
    (runs_ck (q' := (140, [.ref 34, .int x1], [.int (w.1 39 ((6 + x1).toNatClampNeg)), .int x1, .ref 39], w)) rfl h2).trans <|
    (runs_stps (q' := (142, [.ref 34, .int x1], [.int (-9), .int (w.1 39 ((6 + x1).toNatClampNeg)), .int x1, .ref 39], w)) 1 rfl).trans <|
    (runs_if_f (a := 157) (b := 145) (L := [.ref 34, .int x1]) (st := [.int x1, .ref 39]) (w := w) rfl h3).trans <|
    (runs_stps (q' := (153, [.ref 34, .int x1], [.int (6 + x1), .ref 39, .int x1, .ref 39], w)) 5 rfl).trans <|
    (runs_ck (q' := (154, [.ref 34, .int x1], [.int (w.1 39 ((6 + x1).toNatClampNeg)), .int x1, .ref 39], w)) rfl h4).trans <|
    (runs_stps (q' := (167, [.ref 34, .int x1], [.int (w.1 39 ((6 + x1).toNatClampNeg)), .int x1, .ref 39], w)) 1 rfl).trans <|
    (runs_ck (q' := (168, [.ref 34, .int x1], [], updI w 39 x1.toNatClampNeg (w.1 39 ((6 + x1).toNatClampNeg)))) rfl h5).trans <|
    (runs_stps (q' := (121, [.ref 34, .int (x1 + 1)], [], updI w 39 x1.toNatClampNeg (w.1 39 ((6 + x1).toNatClampNeg)))) 2 rfl).trans <|
    rfl
theorem p_X9_settles_212T_R {ex : Ex} {x1 : Int32} {w : Wd} (h1 : 7776 ≤ x1) : runs (T_X9_settles ex) (212, [.ref 34, .int x1], [], w) = some (none, updI w 34 30 (-9)) := 
    (runs_stps (q' := (216, [.ref 34, .int x1], [.int 7776, .int x1], w)) 2 rfl).trans <|
    (runs_if_t (a := 236) (b := 219) (L := [.ref 34, .int x1]) (st := []) (w := w) rfl h1).trans <|
    (runs_stps (q' := (242, [.ref 34, .null], [], updI w 34 30 (-9))) 3 rfl).trans <|
    runs_ret rfl
theorem p_X9_settles_212F_L212 {ex : Ex} {x1 : Int32} {r1 : Int32} {w1 : Wd} {w : Wd} (h1 : ¬ 7776 ≤ x1) (h2 : ex 173 [.ref 34, .int x1] w = some (some (.int r1), w1)) (h3 : vp_in x1 7776) : runs (T_X9_settles ex) (212, [.ref 34, .int x1], [], w) = runs (T_X9_settles ex) (212, [.ref 34, .int (x1 + 1)], [], updI w1 47 x1.toNatClampNeg (vp_nar .boolean r1)) := 
    (runs_stps (q' := (216, [.ref 34, .int x1], [.int 7776, .int x1], w)) 2 rfl).trans <|
    (runs_if_f (a := 236) (b := 219) (L := [.ref 34, .int x1]) (st := []) (w := w) rfl h1).trans <|
    (runs_stps (q' := (226, [.ref 34, .int x1], [.int x1, .ref 34, .int x1, .ref 47], w)) 5 rfl).trans <|
    (runs_callV (rv := some (.int r1)) (w' := w1) rfl rfl rfl rfl h2).trans <|
    (runs_ck (q' := (230, [.ref 34, .int x1], [], updI w1 47 x1.toNatClampNeg (vp_nar .boolean r1))) rfl h3).trans <|
    (runs_stps (q' := (212, [.ref 34, .int (x1 + 1)], [], updI w1 47 x1.toNatClampNeg (vp_nar .boolean r1))) 2 rfl).trans <|
    rfl
theorem p_X9_isSpell_0_R {ex : Ex} {x1 : Int32} {r1 : Int32} {w1 : Wd} {w : Wd} (h1 : ex 135 [.int x1, .int 0, .int ((w.1 34 13) - 1)] w = some (some (.int r1), w1)) (h2 : r1 = 0 ∨ r1 = 1) : runs (T_X9_isSpell ex) (0, [.ref 34, .int x1], [], w) = some (some (.int r1), w1) := 
    (runs_stps (q' := (8, [.ref 34, .int x1], [.int ((w.1 34 13) - 1), .int 0, .int x1], w)) 6 rfl).trans <|
    (runs_callS (rv := some (.int r1)) (w' := w1) rfl rfl rfl h1).trans <|
    runs_rck rfl h2
theorem p_X9_isThing_0_R {ex : Ex} {x1 : Int32} {r1 : Int32} {w1 : Wd} {w : Wd} (h1 : ex 135 [.int x1, .int 0, .int ((w.1 34 14) - 1)] w = some (some (.int r1), w1)) (h2 : r1 = 0 ∨ r1 = 1) : runs (T_X9_isThing ex) (0, [.ref 34, .int x1], [], w) = some (some (.int r1), w1) := 
    (runs_stps (q' := (8, [.ref 34, .int x1], [.int ((w.1 34 14) - 1), .int 0, .int x1], w)) 6 rfl).trans <|
    (runs_callS (rv := some (.int r1)) (w' := w1) rfl rfl rfl h1).trans <|
    runs_rck rfl h2
theorem p_X9_isPupil_0_R {ex : Ex} {x1 : Int32} {r1 : Int32} {w1 : Wd} {w : Wd} (h1 : ex 135 [.int x1, .int 0, .int ((w.1 34 15) - 1)] w = some (some (.int r1), w1)) (h2 : r1 = 0 ∨ r1 = 1) : runs (T_X9_isPupil ex) (0, [.ref 34, .int x1], [], w) = some (some (.int r1), w1) := 
    (runs_stps (q' := (8, [.ref 34, .int x1], [.int ((w.1 34 15) - 1), .int 0, .int x1], w)) 6 rfl).trans <|
    (runs_callS (rv := some (.int r1)) (w' := w1) rfl rfl rfl h1).trans <|
    runs_rck rfl h2
theorem p_X9_spell_0T_R {ex : Ex} {x1 : Int32} {x2 : Int32} {r1 : Int32} {w1 : Wd} {w : Wd} (h1 : ex 151 [.ref 34, .int x1] (updI w 34 0 0) = some (some (.int r1), w1)) (h2 : r1 = 0) : runs (T_X9_spell ex) (0, [.ref 34, .int x1, .int x2], [], w) = some (some (.int (-1)), w1) := 
    (runs_stps (q' := (7, [.ref 34, .int x1, .int x2], [.int x1, .ref 34], updI w 34 0 0)) 5 rfl).trans <|
    (runs_callV (rv := some (.int r1)) (w' := w1) rfl rfl rfl rfl h1).trans <|
    (runs_if_t (a := 35) (b := 13) (L := [.ref 34, .int x1, .int x2]) (st := []) (w := w1) rfl h2).trans <|
    (runs_stps (q' := (36, [.null, .null, .null], [.int (-1)], w1)) 1 rfl).trans <|
    runs_ret rfl
theorem p_X9_spell_0FT_R {ex : Ex} {x1 : Int32} {x2 : Int32} {r1 : Int32} {w1 : Wd} {r2 : Int32} {w2 : Wd} {w : Wd} (h1 : ex 151 [.ref 34, .int x1] (updI w 34 0 0) = some (some (.int r1), w1)) (h2 : ¬ r1 = 0) (h3 : ex 135 [.int x2, .int 0, .int 3] w1 = some (some (.int r2), w2)) (h4 : r2 = 0) : runs (T_X9_spell ex) (0, [.ref 34, .int x1, .int x2], [], w) = some (some (.int (-1)), w2) := 
    (runs_stps (q' := (7, [.ref 34, .int x1, .int x2], [.int x1, .ref 34], updI w 34 0 0)) 5 rfl).trans <|
    (runs_callV (rv := some (.int r1)) (w' := w1) rfl rfl rfl rfl h1).trans <|
    (runs_if_f (a := 35) (b := 13) (L := [.ref 34, .int x1, .int x2]) (st := []) (w := w1) rfl h2).trans <|
    (runs_stps (q' := (16, [.ref 34, .int x1, .int x2], [.int 3, .int 0, .int x2], w1)) 3 rfl).trans <|
    (runs_callS (rv := some (.int r2)) (w' := w2) rfl rfl rfl h3).trans <|
    (runs_if_t (a := 35) (b := 22) (L := [.ref 34, .int x1, .int x2]) (st := []) (w := w2) rfl h4).trans <|
    (runs_stps (q' := (36, [.null, .null, .null], [.int (-1)], w2)) 1 rfl).trans <|
    runs_ret rfl
theorem p_X9_spell_0FF_R {ex : Ex} {x1 : Int32} {x2 : Int32} {r1 : Int32} {w1 : Wd} {r2 : Int32} {w2 : Wd} {w : Wd} (h1 : ex 151 [.ref 34, .int x1] (updI w 34 0 0) = some (some (.int r1), w1)) (h2 : ¬ r1 = 0) (h3 : ex 135 [.int x2, .int 0, .int 3] w1 = some (some (.int r2), w2)) (h4 : ¬ r2 = 0) (h5 : vp_in ((4 * x1) + x2) 40) : runs (T_X9_spell ex) (0, [.ref 34, .int x1, .int x2], [], w) = some (some (.int (w2.1 36 (((4 * x1) + x2).toNatClampNeg))), w2) := 
    (runs_stps (q' := (7, [.ref 34, .int x1, .int x2], [.int x1, .ref 34], updI w 34 0 0)) 5 rfl).trans <|
    (runs_callV (rv := some (.int r1)) (w' := w1) rfl rfl rfl rfl h1).trans <|
    (runs_if_f (a := 35) (b := 13) (L := [.ref 34, .int x1, .int x2]) (st := []) (w := w1) rfl h2).trans <|
    (runs_stps (q' := (16, [.ref 34, .int x1, .int x2], [.int 3, .int 0, .int x2], w1)) 3 rfl).trans <|
    (runs_callS (rv := some (.int r2)) (w' := w2) rfl rfl rfl h3).trans <|
    (runs_if_f (a := 35) (b := 22) (L := [.ref 34, .int x1, .int x2]) (st := []) (w := w2) rfl h4).trans <|
    (runs_stps (q' := (31, [.ref 34, .int x1, .int x2], [.int ((4 * x1) + x2), .ref 36], w2)) 7 rfl).trans <|
    (runs_ck (q' := (32, [.ref 34, .int x1, .int x2], [.int (w2.1 36 (((4 * x1) + x2).toNatClampNeg))], w2)) rfl h5).trans <|
    (runs_stps (q' := (36, [.ref 34, .int x1, .int x2], [.int (w2.1 36 (((4 * x1) + x2).toNatClampNeg))], w2)) 1 rfl).trans <|
    runs_ret rfl
theorem p_X9_layersOf_0_L4 {ex : Ex} {x0 : Int32} {w : Wd} : runs (T_X9_layersOf ex) (0, [.int x0, .null, .null], [], w) = runs (T_X9_layersOf ex) (4, [.int x0, .int 0, .int x0], [], w) := 
    (runs_stps (q' := (4, [.int x0, .int 0, .int x0], [], w)) 4 rfl).trans <|
    rfl
theorem p_X9_layersOf_4T_R {ex : Ex} {v0 : Value} {x1 : Int32} {x2 : Int32} {w : Wd} (h1 : x2 ≤ 0) : runs (T_X9_layersOf ex) (4, [v0, .int x1, .int x2], [], w) = some (some (.int x1), w) := 
    (runs_stps (q' := (5, [.null, .int x1, .int x2], [.int x2], w)) 1 rfl).trans <|
    (runs_if_t (a := 19) (b := 8) (L := [.null, .int x1, .int x2]) (st := []) (w := w) rfl h1).trans <|
    (runs_stps (q' := (20, [.null, .int x1, .null], [.int x1], w)) 1 rfl).trans <|
    runs_ret rfl
theorem p_X9_layersOf_4F_L4 {ex : Ex} {v0 : Value} {x1 : Int32} {x2 : Int32} {w : Wd} (h1 : ¬ x2 ≤ 0) : runs (T_X9_layersOf ex) (4, [v0, .int x1, .int x2], [], w) = runs (T_X9_layersOf ex) (4, [.null, .int (x1 + 1), .int (x2 / 6)], [], w) := 
    (runs_stps (q' := (5, [.null, .int x1, .int x2], [.int x2], w)) 1 rfl).trans <|
    (runs_if_f (a := 19) (b := 8) (L := [.null, .int x1, .int x2]) (st := []) (w := w) rfl h1).trans <|
    (runs_stps (q' := (4, [.null, .int (x1 + 1), .int (x2 / 6)], [], w)) 6 rfl).trans <|
    rfl
theorem p_X9_worksOf_0_L7 {ex : Ex} {x1 : Int32} {w : Wd} : runs (T_X9_worksOf ex) (0, [.ref 34, .int x1, .null, .null, .null, .null], [], w) = runs (T_X9_worksOf ex) (7, [.ref 34, .int x1, .int 0, .int x1, .int 1, .null], [], w) := 
    (runs_stps (q' := (7, [.ref 34, .int x1, .int 0, .int x1, .int 1, .null], [], w)) 6 rfl).trans <|
    rfl
theorem p_X9_worksOf_7T_R {ex : Ex} {v1 : Value} {x2 : Int32} {x3 : Int32} {x4 : Int32} {v5 : Value} {w : Wd} (h1 : x3 ≤ 0) : runs (T_X9_worksOf ex) (7, [.ref 34, v1, .int x2, .int x3, .int x4, v5], [], w) = some (some (.int x2), w) := 
    (runs_stps (q' := (8, [.ref 34, .null, .int x2, .int x3, .int x4, .null], [.int x3], w)) 1 rfl).trans <|
    (runs_if_t (a := 66) (b := 11) (L := [.ref 34, .null, .int x2, .int x3, .int x4, .null]) (st := []) (w := w) rfl h1).trans <|
    (runs_stps (q' := (67, [.null, .null, .int x2, .null, .null, .null], [.int x2], w)) 1 rfl).trans <|
    runs_ret rfl
theorem p_X9_worksOf_7FT_R {ex : Ex} {v1 : Value} {x2 : Int32} {x3 : Int32} {x4 : Int32} {v5 : Value} {w : Wd} (h1 : ¬ x3 ≤ 0) (h2 : x4 = 0) : runs (T_X9_worksOf ex) (7, [.ref 34, v1, .int x2, .int x3, .int x4, v5], [], w) = some (some (.int x2), w) := 
    (runs_stps (q' := (8, [.ref 34, .null, .int x2, .int x3, .int x4, .null], [.int x3], w)) 1 rfl).trans <|
    (runs_if_f (a := 66) (b := 11) (L := [.ref 34, .null, .int x2, .int x3, .int x4, .null]) (st := []) (w := w) rfl h1).trans <|
    (runs_stps (q' := (13, [.ref 34, .null, .int x2, .int x3, .int x4, .null], [.int x4], w)) 1 rfl).trans <|
    (runs_if_t (a := 66) (b := 16) (L := [.ref 34, .null, .int x2, .int x3, .int x4, .null]) (st := []) (w := w) rfl h2).trans <|
    (runs_stps (q' := (67, [.null, .null, .int x2, .null, .null, .null], [.int x2], w)) 1 rfl).trans <|
    runs_ret rfl
theorem p_X9_worksOf_7FFT_L7 {ex : Ex} {v1 : Value} {x2 : Int32} {x3 : Int32} {x4 : Int32} {v5 : Value} {w : Wd} (h1 : ¬ x3 ≤ 0) (h2 : ¬ x4 = 0) (h3 : vp_in (4 * ((x3 - x3 / 6 * 6) - 1)) 40) (h4 : vp_in ((4 * ((x3 - x3 / 6 * 6) - 1)) + 1) 40) (h5 : ¬ (w.1 36 (((4 * ((x3 - x3 / 6 * 6) - 1)) + 1).toNatClampNeg)) = 1) : runs (T_X9_worksOf ex) (7, [.ref 34, v1, .int x2, .int x3, .int x4, v5], [], w) = runs (T_X9_worksOf ex) (7, [.ref 34, .null, .int (x2 ||| (1 <<< ((w.1 36 ((4 * ((x3 - x3 / 6 * 6) - 1)).toNatClampNeg)) &&& 31))), .int (x3 / 6), .int 0, .null], [], w) := 
    (runs_stps (q' := (8, [.ref 34, .null, .int x2, .int x3, .int x4, .null], [.int x3], w)) 1 rfl).trans <|
    (runs_if_f (a := 66) (b := 11) (L := [.ref 34, .null, .int x2, .int x3, .int x4, .null]) (st := []) (w := w) rfl h1).trans <|
    (runs_stps (q' := (13, [.ref 34, .null, .int x2, .int x3, .int x4, .null], [.int x4], w)) 1 rfl).trans <|
    (runs_if_f (a := 66) (b := 16) (L := [.ref 34, .null, .int x2, .int x3, .int x4, .null]) (st := []) (w := w) rfl h2).trans <|
    (runs_stps (q' := (34, [.ref 34, .null, .int x2, .int x3, .int x4, .int (4 * ((x3 - x3 / 6 * 6) - 1))], [.int (4 * ((x3 - x3 / 6 * 6) - 1)), .ref 36, .int 1, .int x2], w)) 13 rfl).trans <|
    (runs_ck (q' := (35, [.ref 34, .null, .int x2, .int x3, .int x4, .int (4 * ((x3 - x3 / 6 * 6) - 1))], [.int (w.1 36 ((4 * ((x3 - x3 / 6 * 6) - 1)).toNatClampNeg)), .int 1, .int x2], w)) rfl h3).trans <|
    (runs_stps (q' := (46, [.ref 34, .null, .int (x2 ||| (1 <<< ((w.1 36 ((4 * ((x3 - x3 / 6 * 6) - 1)).toNatClampNeg)) &&& 31))), .int x3, .int x4, .int (4 * ((x3 - x3 / 6 * 6) - 1))], [.int ((4 * ((x3 - x3 / 6 * 6) - 1)) + 1), .ref 36], w)) 8 rfl).trans <|
    (runs_ck (q' := (47, [.ref 34, .null, .int (x2 ||| (1 <<< ((w.1 36 ((4 * ((x3 - x3 / 6 * 6) - 1)).toNatClampNeg)) &&& 31))), .int x3, .int x4, .int (4 * ((x3 - x3 / 6 * 6) - 1))], [.int (w.1 36 (((4 * ((x3 - x3 / 6 * 6) - 1)) + 1).toNatClampNeg))], w)) rfl h4).trans <|
    (runs_stps (q' := (48, [.ref 34, .null, .int (x2 ||| (1 <<< ((w.1 36 ((4 * ((x3 - x3 / 6 * 6) - 1)).toNatClampNeg)) &&& 31))), .int x3, .int x4, .int (4 * ((x3 - x3 / 6 * 6) - 1))], [.int 1, .int (w.1 36 (((4 * ((x3 - x3 / 6 * 6) - 1)) + 1).toNatClampNeg))], w)) 1 rfl).trans <|
    (runs_if_f (a := 51) (b := 55) (L := [.ref 34, .null, .int (x2 ||| (1 <<< ((w.1 36 ((4 * ((x3 - x3 / 6 * 6) - 1)).toNatClampNeg)) &&& 31))), .int x3, .int x4, .int (4 * ((x3 - x3 / 6 * 6) - 1))]) (st := []) (w := w) rfl h5).trans <|
    (runs_stps (q' := (7, [.ref 34, .null, .int (x2 ||| (1 <<< ((w.1 36 ((4 * ((x3 - x3 / 6 * 6) - 1)).toNatClampNeg)) &&& 31))), .int (x3 / 6), .int 0, .null], [], w)) 7 rfl).trans <|
    rfl
theorem p_X9_worksOf_7FFF_L7 {ex : Ex} {v1 : Value} {x2 : Int32} {x3 : Int32} {x4 : Int32} {v5 : Value} {w : Wd} (h1 : ¬ x3 ≤ 0) (h2 : ¬ x4 = 0) (h3 : vp_in (4 * ((x3 - x3 / 6 * 6) - 1)) 40) (h4 : vp_in ((4 * ((x3 - x3 / 6 * 6) - 1)) + 1) 40) (h5 : (w.1 36 (((4 * ((x3 - x3 / 6 * 6) - 1)) + 1).toNatClampNeg)) = 1) : runs (T_X9_worksOf ex) (7, [.ref 34, v1, .int x2, .int x3, .int x4, v5], [], w) = runs (T_X9_worksOf ex) (7, [.ref 34, .null, .int (x2 ||| (1 <<< ((w.1 36 ((4 * ((x3 - x3 / 6 * 6) - 1)).toNatClampNeg)) &&& 31))), .int (x3 / 6), .int 1, .null], [], w) := 
    (runs_stps (q' := (8, [.ref 34, .null, .int x2, .int x3, .int x4, .null], [.int x3], w)) 1 rfl).trans <|
    (runs_if_f (a := 66) (b := 11) (L := [.ref 34, .null, .int x2, .int x3, .int x4, .null]) (st := []) (w := w) rfl h1).trans <|
    (runs_stps (q' := (13, [.ref 34, .null, .int x2, .int x3, .int x4, .null], [.int x4], w)) 1 rfl).trans <|
    (runs_if_f (a := 66) (b := 16) (L := [.ref 34, .null, .int x2, .int x3, .int x4, .null]) (st := []) (w := w) rfl h2).trans <|
    (runs_stps (q' := (34, [.ref 34, .null, .int x2, .int x3, .int x4, .int (4 * ((x3 - x3 / 6 * 6) - 1))], [.int (4 * ((x3 - x3 / 6 * 6) - 1)), .ref 36, .int 1, .int x2], w)) 13 rfl).trans <|
    (runs_ck (q' := (35, [.ref 34, .null, .int x2, .int x3, .int x4, .int (4 * ((x3 - x3 / 6 * 6) - 1))], [.int (w.1 36 ((4 * ((x3 - x3 / 6 * 6) - 1)).toNatClampNeg)), .int 1, .int x2], w)) rfl h3).trans <|
    (runs_stps (q' := (46, [.ref 34, .null, .int (x2 ||| (1 <<< ((w.1 36 ((4 * ((x3 - x3 / 6 * 6) - 1)).toNatClampNeg)) &&& 31))), .int x3, .int x4, .int (4 * ((x3 - x3 / 6 * 6) - 1))], [.int ((4 * ((x3 - x3 / 6 * 6) - 1)) + 1), .ref 36], w)) 8 rfl).trans <|
    (runs_ck (q' := (47, [.ref 34, .null, .int (x2 ||| (1 <<< ((w.1 36 ((4 * ((x3 - x3 / 6 * 6) - 1)).toNatClampNeg)) &&& 31))), .int x3, .int x4, .int (4 * ((x3 - x3 / 6 * 6) - 1))], [.int (w.1 36 (((4 * ((x3 - x3 / 6 * 6) - 1)) + 1).toNatClampNeg))], w)) rfl h4).trans <|
    (runs_stps (q' := (48, [.ref 34, .null, .int (x2 ||| (1 <<< ((w.1 36 ((4 * ((x3 - x3 / 6 * 6) - 1)).toNatClampNeg)) &&& 31))), .int x3, .int x4, .int (4 * ((x3 - x3 / 6 * 6) - 1))], [.int 1, .int (w.1 36 (((4 * ((x3 - x3 / 6 * 6) - 1)) + 1).toNatClampNeg))], w)) 1 rfl).trans <|
    (runs_if_t (a := 51) (b := 55) (L := [.ref 34, .null, .int (x2 ||| (1 <<< ((w.1 36 ((4 * ((x3 - x3 / 6 * 6) - 1)).toNatClampNeg)) &&& 31))), .int x3, .int x4, .int (4 * ((x3 - x3 / 6 * 6) - 1))]) (st := []) (w := w) rfl h5).trans <|
    (runs_stps (q' := (7, [.ref 34, .null, .int (x2 ||| (1 <<< ((w.1 36 ((4 * ((x3 - x3 / 6 * 6) - 1)).toNatClampNeg)) &&& 31))), .int (x3 / 6), .int 1, .null], [], w)) 8 rfl).trans <|
    rfl
theorem p_X9_thing_0T_R {ex : Ex} {x1 : Int32} {x2 : Int32} {r1 : Int32} {w1 : Wd} {w : Wd} (h1 : ex 152 [.ref 34, .int x1] (updI w 34 0 0) = some (some (.int r1), w1)) (h2 : r1 = 0) : runs (T_X9_thing ex) (0, [.ref 34, .int x1, .int x2, .null], [], w) = some (some (.int (-1)), w1) := 
    (runs_stps (q' := (7, [.ref 34, .int x1, .int x2, .null], [.int x1, .ref 34], updI w 34 0 0)) 5 rfl).trans <|
    (runs_callV (rv := some (.int r1)) (w' := w1) rfl rfl rfl rfl h1).trans <|
    (runs_if_t (a := 22) (b := 13) (L := [.ref 34, .int x1, .int x2, .null]) (st := []) (w := w1) rfl h2).trans <|
    (runs_stps (q' := (23, [.null, .null, .null, .null], [.int (-1)], w1)) 1 rfl).trans <|
    runs_ret rfl
theorem p_X9_thing_0FTTTT_R {ex : Ex} {x1 : Int32} {x2 : Int32} {r1 : Int32} {w1 : Wd} {r2 : Int32} {w2 : Wd} {r3 : Int32} {w3 : Wd} {w : Wd} (h1 : ex 152 [.ref 34, .int x1] (updI w 34 0 0) = some (some (.int r1), w1)) (h2 : ¬ r1 = 0) (h3 : ex 135 [.int x2, .int 0, .int 2] w1 = some (some (.int r2), w2)) (h4 : ¬ r2 = 0) (h5 : vp_in x1 5) (h6 : ex 155 [.int (w2.1 40 x1.toNatClampNeg)] w2 = some (some (.int r3), w3)) (h7 : ¬ x2 = 0) (h8 : ¬ x2 = 1) (h9 : r3 < (w3.1 39 5)) : runs (T_X9_thing ex) (0, [.ref 34, .int x1, .int x2, .null], [], w) = some (some (.int 0), w3) := 
    (runs_stps (q' := (7, [.ref 34, .int x1, .int x2, .null], [.int x1, .ref 34], updI w 34 0 0)) 5 rfl).trans <|
    (runs_callV (rv := some (.int r1)) (w' := w1) rfl rfl rfl rfl h1).trans <|
    (runs_if_f (a := 22) (b := 13) (L := [.ref 34, .int x1, .int x2, .null]) (st := []) (w := w1) rfl h2).trans <|
    (runs_stps (q' := (16, [.ref 34, .int x1, .int x2, .null], [.int 2, .int 0, .int x2], w1)) 3 rfl).trans <|
    (runs_callS (rv := some (.int r2)) (w' := w2) rfl rfl rfl h3).trans <|
    (runs_if_f (a := 22) (b := 24) (L := [.ref 34, .int x1, .int x2, .null]) (st := []) (w := w2) rfl h4).trans <|
    (runs_stps (q' := (29, [.ref 34, .int x1, .int x2, .null], [.int x1, .ref 40], w2)) 3 rfl).trans <|
    (runs_ck (q' := (30, [.ref 34, .int x1, .int x2, .null], [.int (w2.1 40 x1.toNatClampNeg)], w2)) rfl h5).trans <|
    (runs_callS (rv := some (.int r3)) (w' := w3) rfl rfl rfl h6).trans <|
    (runs_stps (q' := (35, [.ref 34, .int x1, .int x2, .int r3], [.int x2], w3)) 2 rfl).trans <|
    (runs_if_f (a := 38) (b := 42) (L := [.ref 34, .int x1, .int x2, .int r3]) (st := []) (w := w3) rfl h7).trans <|
    (runs_stps (q' := (44, [.ref 34, .int x1, .int x2, .int r3], [.int 1, .int x2], w3)) 2 rfl).trans <|
    (runs_if_f (a := 47) (b := 60) (L := [.ref 34, .int x1, .int x2, .int r3]) (st := []) (w := w3) rfl h8).trans <|
    (runs_stps (q' := (67, [.ref 34, .null, .null, .int r3], [.int (w3.1 39 5), .int r3], w3)) 5 rfl).trans <|
    (runs_if_t (a := 74) (b := 70) (L := [.ref 34, .null, .null, .int r3]) (st := []) (w := w3) rfl h9).trans <|
    (runs_stps (q' := (75, [.null, .null, .null, .null], [.int 0], w3)) 1 rfl).trans <|
    runs_ret rfl
theorem p_X9_thing_0FTTTF_R {ex : Ex} {x1 : Int32} {x2 : Int32} {r1 : Int32} {w1 : Wd} {r2 : Int32} {w2 : Wd} {r3 : Int32} {w3 : Wd} {w : Wd} (h1 : ex 152 [.ref 34, .int x1] (updI w 34 0 0) = some (some (.int r1), w1)) (h2 : ¬ r1 = 0) (h3 : ex 135 [.int x2, .int 0, .int 2] w1 = some (some (.int r2), w2)) (h4 : ¬ r2 = 0) (h5 : vp_in x1 5) (h6 : ex 155 [.int (w2.1 40 x1.toNatClampNeg)] w2 = some (some (.int r3), w3)) (h7 : ¬ x2 = 0) (h8 : ¬ x2 = 1) (h9 : ¬ r3 < (w3.1 39 5)) : runs (T_X9_thing ex) (0, [.ref 34, .int x1, .int x2, .null], [], w) = some (some (.int 1), w3) := 
    (runs_stps (q' := (7, [.ref 34, .int x1, .int x2, .null], [.int x1, .ref 34], updI w 34 0 0)) 5 rfl).trans <|
    (runs_callV (rv := some (.int r1)) (w' := w1) rfl rfl rfl rfl h1).trans <|
    (runs_if_f (a := 22) (b := 13) (L := [.ref 34, .int x1, .int x2, .null]) (st := []) (w := w1) rfl h2).trans <|
    (runs_stps (q' := (16, [.ref 34, .int x1, .int x2, .null], [.int 2, .int 0, .int x2], w1)) 3 rfl).trans <|
    (runs_callS (rv := some (.int r2)) (w' := w2) rfl rfl rfl h3).trans <|
    (runs_if_f (a := 22) (b := 24) (L := [.ref 34, .int x1, .int x2, .null]) (st := []) (w := w2) rfl h4).trans <|
    (runs_stps (q' := (29, [.ref 34, .int x1, .int x2, .null], [.int x1, .ref 40], w2)) 3 rfl).trans <|
    (runs_ck (q' := (30, [.ref 34, .int x1, .int x2, .null], [.int (w2.1 40 x1.toNatClampNeg)], w2)) rfl h5).trans <|
    (runs_callS (rv := some (.int r3)) (w' := w3) rfl rfl rfl h6).trans <|
    (runs_stps (q' := (35, [.ref 34, .int x1, .int x2, .int r3], [.int x2], w3)) 2 rfl).trans <|
    (runs_if_f (a := 38) (b := 42) (L := [.ref 34, .int x1, .int x2, .int r3]) (st := []) (w := w3) rfl h7).trans <|
    (runs_stps (q' := (44, [.ref 34, .int x1, .int x2, .int r3], [.int 1, .int x2], w3)) 2 rfl).trans <|
    (runs_if_f (a := 47) (b := 60) (L := [.ref 34, .int x1, .int x2, .int r3]) (st := []) (w := w3) rfl h8).trans <|
    (runs_stps (q' := (67, [.ref 34, .null, .null, .int r3], [.int (w3.1 39 5), .int r3], w3)) 5 rfl).trans <|
    (runs_if_f (a := 74) (b := 70) (L := [.ref 34, .null, .null, .int r3]) (st := []) (w := w3) rfl h9).trans <|
    (runs_stps (q' := (75, [.ref 34, .null, .null, .int r3], [.int 1], w3)) 2 rfl).trans <|
    runs_ret rfl
theorem p_X9_thing_0FTTF_R {ex : Ex} {x1 : Int32} {x2 : Int32} {r1 : Int32} {w1 : Wd} {r2 : Int32} {w2 : Wd} {r3 : Int32} {w3 : Wd} {r4 : Int32} {w4 : Wd} {w : Wd} (h1 : ex 152 [.ref 34, .int x1] (updI w 34 0 0) = some (some (.int r1), w1)) (h2 : ¬ r1 = 0) (h3 : ex 135 [.int x2, .int 0, .int 2] w1 = some (some (.int r2), w2)) (h4 : ¬ r2 = 0) (h5 : vp_in x1 5) (h6 : ex 155 [.int (w2.1 40 x1.toNatClampNeg)] w2 = some (some (.int r3), w3)) (h7 : ¬ x2 = 0) (h8 : x2 = 1) (h9 : vp_in x1 5) (h10 : ex 156 [.ref 34, .int (w3.1 40 x1.toNatClampNeg)] w3 = some (some (.int r4), w4)) : runs (T_X9_thing ex) (0, [.ref 34, .int x1, .int x2, .null], [], w) = some (some (.int r4), w4) := 
    (runs_stps (q' := (7, [.ref 34, .int x1, .int x2, .null], [.int x1, .ref 34], updI w 34 0 0)) 5 rfl).trans <|
    (runs_callV (rv := some (.int r1)) (w' := w1) rfl rfl rfl rfl h1).trans <|
    (runs_if_f (a := 22) (b := 13) (L := [.ref 34, .int x1, .int x2, .null]) (st := []) (w := w1) rfl h2).trans <|
    (runs_stps (q' := (16, [.ref 34, .int x1, .int x2, .null], [.int 2, .int 0, .int x2], w1)) 3 rfl).trans <|
    (runs_callS (rv := some (.int r2)) (w' := w2) rfl rfl rfl h3).trans <|
    (runs_if_f (a := 22) (b := 24) (L := [.ref 34, .int x1, .int x2, .null]) (st := []) (w := w2) rfl h4).trans <|
    (runs_stps (q' := (29, [.ref 34, .int x1, .int x2, .null], [.int x1, .ref 40], w2)) 3 rfl).trans <|
    (runs_ck (q' := (30, [.ref 34, .int x1, .int x2, .null], [.int (w2.1 40 x1.toNatClampNeg)], w2)) rfl h5).trans <|
    (runs_callS (rv := some (.int r3)) (w' := w3) rfl rfl rfl h6).trans <|
    (runs_stps (q' := (35, [.ref 34, .int x1, .int x2, .int r3], [.int x2], w3)) 2 rfl).trans <|
    (runs_if_f (a := 38) (b := 42) (L := [.ref 34, .int x1, .int x2, .int r3]) (st := []) (w := w3) rfl h7).trans <|
    (runs_stps (q' := (44, [.ref 34, .int x1, .int x2, .int r3], [.int 1, .int x2], w3)) 2 rfl).trans <|
    (runs_if_t (a := 47) (b := 60) (L := [.ref 34, .int x1, .int x2, .int r3]) (st := []) (w := w3) rfl h8).trans <|
    (runs_stps (q' := (53, [.ref 34, .int x1, .int x2, .int r3], [.int x1, .ref 40, .ref 34], w3)) 4 rfl).trans <|
    (runs_ck (q' := (54, [.ref 34, .int x1, .int x2, .int r3], [.int (w3.1 40 x1.toNatClampNeg), .ref 34], w3)) rfl h9).trans <|
    (runs_callV (rv := some (.int r4)) (w' := w4) rfl rfl rfl rfl h10).trans <|
    (runs_stps (q' := (75, [.ref 34, .int x1, .int x2, .int r3], [.int r4], w4)) 1 rfl).trans <|
    runs_ret rfl
theorem p_X9_thing_0FTF_R {ex : Ex} {x1 : Int32} {x2 : Int32} {r1 : Int32} {w1 : Wd} {r2 : Int32} {w2 : Wd} {r3 : Int32} {w3 : Wd} {w : Wd} (h1 : ex 152 [.ref 34, .int x1] (updI w 34 0 0) = some (some (.int r1), w1)) (h2 : ¬ r1 = 0) (h3 : ex 135 [.int x2, .int 0, .int 2] w1 = some (some (.int r2), w2)) (h4 : ¬ r2 = 0) (h5 : vp_in x1 5) (h6 : ex 155 [.int (w2.1 40 x1.toNatClampNeg)] w2 = some (some (.int r3), w3)) (h7 : x2 = 0) : runs (T_X9_thing ex) (0, [.ref 34, .int x1, .int x2, .null], [], w) = some (some (.int r3), w3) := 
    (runs_stps (q' := (7, [.ref 34, .int x1, .int x2, .null], [.int x1, .ref 34], updI w 34 0 0)) 5 rfl).trans <|
    (runs_callV (rv := some (.int r1)) (w' := w1) rfl rfl rfl rfl h1).trans <|
    (runs_if_f (a := 22) (b := 13) (L := [.ref 34, .int x1, .int x2, .null]) (st := []) (w := w1) rfl h2).trans <|
    (runs_stps (q' := (16, [.ref 34, .int x1, .int x2, .null], [.int 2, .int 0, .int x2], w1)) 3 rfl).trans <|
    (runs_callS (rv := some (.int r2)) (w' := w2) rfl rfl rfl h3).trans <|
    (runs_if_f (a := 22) (b := 24) (L := [.ref 34, .int x1, .int x2, .null]) (st := []) (w := w2) rfl h4).trans <|
    (runs_stps (q' := (29, [.ref 34, .int x1, .int x2, .null], [.int x1, .ref 40], w2)) 3 rfl).trans <|
    (runs_ck (q' := (30, [.ref 34, .int x1, .int x2, .null], [.int (w2.1 40 x1.toNatClampNeg)], w2)) rfl h5).trans <|
    (runs_callS (rv := some (.int r3)) (w' := w3) rfl rfl rfl h6).trans <|
    (runs_stps (q' := (35, [.ref 34, .int x1, .int x2, .int r3], [.int x2], w3)) 2 rfl).trans <|
    (runs_if_t (a := 38) (b := 42) (L := [.ref 34, .int x1, .int x2, .int r3]) (st := []) (w := w3) rfl h7).trans <|
    (runs_stps (q' := (75, [.ref 34, .int x1, .int x2, .int r3], [.int r3], w3)) 2 rfl).trans <|
    runs_ret rfl
theorem p_X9_thing_0FF_R {ex : Ex} {x1 : Int32} {x2 : Int32} {r1 : Int32} {w1 : Wd} {r2 : Int32} {w2 : Wd} {w : Wd} (h1 : ex 152 [.ref 34, .int x1] (updI w 34 0 0) = some (some (.int r1), w1)) (h2 : ¬ r1 = 0) (h3 : ex 135 [.int x2, .int 0, .int 2] w1 = some (some (.int r2), w2)) (h4 : r2 = 0) : runs (T_X9_thing ex) (0, [.ref 34, .int x1, .int x2, .null], [], w) = some (some (.int (-1)), w2) := 
    (runs_stps (q' := (7, [.ref 34, .int x1, .int x2, .null], [.int x1, .ref 34], updI w 34 0 0)) 5 rfl).trans <|
    (runs_callV (rv := some (.int r1)) (w' := w1) rfl rfl rfl rfl h1).trans <|
    (runs_if_f (a := 22) (b := 13) (L := [.ref 34, .int x1, .int x2, .null]) (st := []) (w := w1) rfl h2).trans <|
    (runs_stps (q' := (16, [.ref 34, .int x1, .int x2, .null], [.int 2, .int 0, .int x2], w1)) 3 rfl).trans <|
    (runs_callS (rv := some (.int r2)) (w' := w2) rfl rfl rfl h3).trans <|
    (runs_if_t (a := 22) (b := 24) (L := [.ref 34, .int x1, .int x2, .null]) (st := []) (w := w2) rfl h4).trans <|
    (runs_stps (q' := (23, [.null, .null, .null, .null], [.int (-1)], w2)) 1 rfl).trans <|
    runs_ret rfl
theorem p_X9_spellAt_0_L4 {ex : Ex} {x0 : Int32} {x1 : Int32} {w : Wd} : runs (T_X9_spellAt ex) (0, [.int x0, .int x1, .null, .null], [], w) = runs (T_X9_spellAt ex) (4, [.int x0, .int x1, .int x0, .int 0], [], w) := 
    (runs_stps (q' := (4, [.int x0, .int x1, .int x0, .int 0], [], w)) 4 rfl).trans <|
    rfl
theorem p_X9_spellAt_4TT_R {ex : Ex} {v0 : Value} {x1 : Int32} {x2 : Int32} {x3 : Int32} {w : Wd} (h1 : x1 ≤ x3) (h2 : ¬ x2 = 0) : runs (T_X9_spellAt ex) (4, [v0, .int x1, .int x2, .int x3], [], w) = some (some (.int ((x2 - x2 / 6 * 6) - 1)), w) := 
    (runs_stps (q' := (6, [.null, .int x1, .int x2, .int x3], [.int x1, .int x3], w)) 2 rfl).trans <|
    (runs_if_t (a := 20) (b := 9) (L := [.null, .int x1, .int x2, .int x3]) (st := []) (w := w) rfl h1).trans <|
    (runs_stps (q' := (21, [.null, .null, .int x2, .null], [.int x2], w)) 1 rfl).trans <|
    (runs_if_f (a := 24) (b := 29) (L := [.null, .null, .int x2, .null]) (st := []) (w := w) rfl h2).trans <|
    (runs_stps (q' := (35, [.null, .null, .int x2, .null], [.int ((x2 - x2 / 6 * 6) - 1)], w)) 5 rfl).trans <|
    runs_ret rfl
theorem p_X9_spellAt_4TF_R {ex : Ex} {v0 : Value} {x1 : Int32} {x2 : Int32} {x3 : Int32} {w : Wd} (h1 : x1 ≤ x3) (h2 : x2 = 0) : runs (T_X9_spellAt ex) (4, [v0, .int x1, .int x2, .int x3], [], w) = some (some (.int (-9)), w) := 
    (runs_stps (q' := (6, [.null, .int x1, .int x2, .int x3], [.int x1, .int x3], w)) 2 rfl).trans <|
    (runs_if_t (a := 20) (b := 9) (L := [.null, .int x1, .int x2, .int x3]) (st := []) (w := w) rfl h1).trans <|
    (runs_stps (q' := (21, [.null, .null, .int x2, .null], [.int x2], w)) 1 rfl).trans <|
    (runs_if_t (a := 24) (b := 29) (L := [.null, .null, .int x2, .null]) (st := []) (w := w) rfl h2).trans <|
    (runs_stps (q' := (35, [.null, .null, .int x2, .null], [.int (-9)], w)) 2 rfl).trans <|
    runs_ret rfl
theorem p_X9_spellAt_4F_L4 {ex : Ex} {v0 : Value} {x1 : Int32} {x2 : Int32} {x3 : Int32} {w : Wd} (h1 : ¬ x1 ≤ x3) : runs (T_X9_spellAt ex) (4, [v0, .int x1, .int x2, .int x3], [], w) = runs (T_X9_spellAt ex) (4, [.null, .int x1, .int (x2 / 6), .int (x3 + 1)], [], w) := 
    (runs_stps (q' := (6, [.null, .int x1, .int x2, .int x3], [.int x1, .int x3], w)) 2 rfl).trans <|
    (runs_if_f (a := 20) (b := 9) (L := [.null, .int x1, .int x2, .int x3]) (st := []) (w := w) rfl h1).trans <|
    (runs_stps (q' := (4, [.null, .int x1, .int (x2 / 6), .int (x3 + 1)], [], w)) 6 rfl).trans <|
    rfl
theorem p_X9_layer_0T_R {ex : Ex} {x1 : Int32} {x2 : Int32} {r1 : Int32} {w1 : Wd} {w : Wd} (h1 : ex 152 [.ref 34, .int x1] (updI w 34 0 0) = some (some (.int r1), w1)) (h2 : r1 = 0) : runs (T_X9_layer ex) (0, [.ref 34, .int x1, .int x2, .null], [], w) = some (some (.int (-1)), w1) := 
    (runs_stps (q' := (7, [.ref 34, .int x1, .int x2, .null], [.int x1, .ref 34], updI w 34 0 0)) 5 rfl).trans <|
    (runs_callV (rv := some (.int r1)) (w' := w1) rfl rfl rfl rfl h1).trans <|
    (runs_if_t (a := 17) (b := 13) (L := [.ref 34, .int x1, .int x2, .null]) (st := []) (w := w1) rfl h2).trans <|
    (runs_stps (q' := (18, [.null, .null, .null, .null], [.int (-1)], w1)) 1 rfl).trans <|
    runs_ret rfl
theorem p_X9_layer_0FTTT_R {ex : Ex} {x1 : Int32} {x2 : Int32} {r1 : Int32} {w1 : Wd} {r2 : Int32} {w2 : Wd} {w : Wd} (h1 : ex 152 [.ref 34, .int x1] (updI w 34 0 0) = some (some (.int r1), w1)) (h2 : ¬ r1 = 0) (h3 : 0 ≤ x2) (h4 : x2 ≤ 4) (h5 : vp_in x1 5) (h6 : ex 158 [.int (w1.1 40 x1.toNatClampNeg), .int x2] w1 = some (some (.int r2), w2)) (h7 : ¬ r2 = (-9)) : runs (T_X9_layer ex) (0, [.ref 34, .int x1, .int x2, .null], [], w) = some (some (.int r2), w2) := 
    (runs_stps (q' := (7, [.ref 34, .int x1, .int x2, .null], [.int x1, .ref 34], updI w 34 0 0)) 5 rfl).trans <|
    (runs_callV (rv := some (.int r1)) (w' := w1) rfl rfl rfl rfl h1).trans <|
    (runs_if_f (a := 17) (b := 13) (L := [.ref 34, .int x1, .int x2, .null]) (st := []) (w := w1) rfl h2).trans <|
    (runs_stps (q' := (14, [.ref 34, .int x1, .int x2, .null], [.int x2], w1)) 1 rfl).trans <|
    (runs_if_t (a := 19) (b := 17) (L := [.ref 34, .int x1, .int x2, .null]) (st := []) (w := w1) rfl h3).trans <|
    (runs_stps (q' := (21, [.ref 34, .int x1, .int x2, .null], [.int 4, .int x2], w1)) 2 rfl).trans <|
    (runs_if_t (a := 29) (b := 24) (L := [.ref 34, .int x1, .int x2, .null]) (st := []) (w := w1) rfl h4).trans <|
    (runs_stps (q' := (34, [.ref 34, .int x1, .int x2, .null], [.int x1, .ref 40], w1)) 3 rfl).trans <|
    (runs_ck (q' := (35, [.ref 34, .int x1, .int x2, .null], [.int (w1.1 40 x1.toNatClampNeg)], w1)) rfl h5).trans <|
    (runs_stps (q' := (36, [.ref 34, .int x1, .int x2, .null], [.int x2, .int (w1.1 40 x1.toNatClampNeg)], w1)) 1 rfl).trans <|
    (runs_callS (rv := some (.int r2)) (w' := w2) rfl rfl rfl h6).trans <|
    (runs_stps (q' := (43, [.null, .null, .null, .int r2], [.int (-9), .int r2], w2)) 3 rfl).trans <|
    (runs_if_f (a := 46) (b := 51) (L := [.null, .null, .null, .int r2]) (st := []) (w := w2) rfl h7).trans <|
    (runs_stps (q' := (52, [.null, .null, .null, .int r2], [.int r2], w2)) 1 rfl).trans <|
    runs_ret rfl
theorem p_X9_layer_0FTTF_R {ex : Ex} {x1 : Int32} {x2 : Int32} {r1 : Int32} {w1 : Wd} {r2 : Int32} {w2 : Wd} {w : Wd} (h1 : ex 152 [.ref 34, .int x1] (updI w 34 0 0) = some (some (.int r1), w1)) (h2 : ¬ r1 = 0) (h3 : 0 ≤ x2) (h4 : x2 ≤ 4) (h5 : vp_in x1 5) (h6 : ex 158 [.int (w1.1 40 x1.toNatClampNeg), .int x2] w1 = some (some (.int r2), w2)) (h7 : r2 = (-9)) : runs (T_X9_layer ex) (0, [.ref 34, .int x1, .int x2, .null], [], w) = some (some (.int (-5)), w2) := 
    (runs_stps (q' := (7, [.ref 34, .int x1, .int x2, .null], [.int x1, .ref 34], updI w 34 0 0)) 5 rfl).trans <|
    (runs_callV (rv := some (.int r1)) (w' := w1) rfl rfl rfl rfl h1).trans <|
    (runs_if_f (a := 17) (b := 13) (L := [.ref 34, .int x1, .int x2, .null]) (st := []) (w := w1) rfl h2).trans <|
    (runs_stps (q' := (14, [.ref 34, .int x1, .int x2, .null], [.int x2], w1)) 1 rfl).trans <|
    (runs_if_t (a := 19) (b := 17) (L := [.ref 34, .int x1, .int x2, .null]) (st := []) (w := w1) rfl h3).trans <|
    (runs_stps (q' := (21, [.ref 34, .int x1, .int x2, .null], [.int 4, .int x2], w1)) 2 rfl).trans <|
    (runs_if_t (a := 29) (b := 24) (L := [.ref 34, .int x1, .int x2, .null]) (st := []) (w := w1) rfl h4).trans <|
    (runs_stps (q' := (34, [.ref 34, .int x1, .int x2, .null], [.int x1, .ref 40], w1)) 3 rfl).trans <|
    (runs_ck (q' := (35, [.ref 34, .int x1, .int x2, .null], [.int (w1.1 40 x1.toNatClampNeg)], w1)) rfl h5).trans <|
    (runs_stps (q' := (36, [.ref 34, .int x1, .int x2, .null], [.int x2, .int (w1.1 40 x1.toNatClampNeg)], w1)) 1 rfl).trans <|
    (runs_callS (rv := some (.int r2)) (w' := w2) rfl rfl rfl h6).trans <|
    (runs_stps (q' := (43, [.null, .null, .null, .int r2], [.int (-9), .int r2], w2)) 3 rfl).trans <|
    (runs_if_t (a := 46) (b := 51) (L := [.null, .null, .null, .int r2]) (st := []) (w := w2) rfl h7).trans <|
    (runs_stps (q' := (52, [.null, .null, .null, .int r2], [.int (-5)], w2)) 2 rfl).trans <|
    runs_ret rfl
theorem p_X9_layer_0FTFT_R {ex : Ex} {x1 : Int32} {x2 : Int32} {r1 : Int32} {w1 : Wd} {w : Wd} (h1 : ex 152 [.ref 34, .int x1] (updI w 34 0 0) = some (some (.int r1), w1)) (h2 : ¬ r1 = 0) (h3 : 0 ≤ x2) (h4 : ¬ x2 ≤ 4) (h5 : ¬ (-9) = (-9 : Int32)) : runs (T_X9_layer ex) (0, [.ref 34, .int x1, .int x2, .null], [], w) = some (some (.int (-9)), w1) := 
    (runs_stps (q' := (7, [.ref 34, .int x1, .int x2, .null], [.int x1, .ref 34], updI w 34 0 0)) 5 rfl).trans <|
    (runs_callV (rv := some (.int r1)) (w' := w1) rfl rfl rfl rfl h1).trans <|
    (runs_if_f (a := 17) (b := 13) (L := [.ref 34, .int x1, .int x2, .null]) (st := []) (w := w1) rfl h2).trans <|
    (runs_stps (q' := (14, [.ref 34, .int x1, .int x2, .null], [.int x2], w1)) 1 rfl).trans <|
    (runs_if_t (a := 19) (b := 17) (L := [.ref 34, .int x1, .int x2, .null]) (st := []) (w := w1) rfl h3).trans <|
    (runs_stps (q' := (21, [.ref 34, .int x1, .int x2, .null], [.int 4, .int x2], w1)) 2 rfl).trans <|
    (runs_if_f (a := 29) (b := 24) (L := [.ref 34, .int x1, .int x2, .null]) (st := []) (w := w1) rfl h4).trans <|
    (runs_stps (q' := (43, [.null, .null, .null, .int (-9)], [.int (-9), .int (-9)], w1)) 5 rfl).trans <|
    (runs_if_f (a := 46) (b := 51) (L := [.null, .null, .null, .int (-9)]) (st := []) (w := w1) rfl h5).trans <|
    (runs_stps (q' := (52, [.null, .null, .null, .int (-9)], [.int (-9)], w1)) 1 rfl).trans <|
    runs_ret rfl
theorem p_X9_layer_0FTFF_R {ex : Ex} {x1 : Int32} {x2 : Int32} {r1 : Int32} {w1 : Wd} {w : Wd} (h1 : ex 152 [.ref 34, .int x1] (updI w 34 0 0) = some (some (.int r1), w1)) (h2 : ¬ r1 = 0) (h3 : 0 ≤ x2) (h4 : ¬ x2 ≤ 4) (h5 : (-9) = (-9 : Int32)) : runs (T_X9_layer ex) (0, [.ref 34, .int x1, .int x2, .null], [], w) = some (some (.int (-5)), w1) := 
    (runs_stps (q' := (7, [.ref 34, .int x1, .int x2, .null], [.int x1, .ref 34], updI w 34 0 0)) 5 rfl).trans <|
    (runs_callV (rv := some (.int r1)) (w' := w1) rfl rfl rfl rfl h1).trans <|
    (runs_if_f (a := 17) (b := 13) (L := [.ref 34, .int x1, .int x2, .null]) (st := []) (w := w1) rfl h2).trans <|
    (runs_stps (q' := (14, [.ref 34, .int x1, .int x2, .null], [.int x2], w1)) 1 rfl).trans <|
    (runs_if_t (a := 19) (b := 17) (L := [.ref 34, .int x1, .int x2, .null]) (st := []) (w := w1) rfl h3).trans <|
    (runs_stps (q' := (21, [.ref 34, .int x1, .int x2, .null], [.int 4, .int x2], w1)) 2 rfl).trans <|
    (runs_if_f (a := 29) (b := 24) (L := [.ref 34, .int x1, .int x2, .null]) (st := []) (w := w1) rfl h4).trans <|
    (runs_stps (q' := (43, [.null, .null, .null, .int (-9)], [.int (-9), .int (-9)], w1)) 5 rfl).trans <|
    (runs_if_t (a := 46) (b := 51) (L := [.null, .null, .null, .int (-9)]) (st := []) (w := w1) rfl h5).trans <|
    (runs_stps (q' := (52, [.null, .null, .null, .int (-9)], [.int (-5)], w1)) 2 rfl).trans <|
    runs_ret rfl
theorem p_X9_layer_0FF_R {ex : Ex} {x1 : Int32} {x2 : Int32} {r1 : Int32} {w1 : Wd} {w : Wd} (h1 : ex 152 [.ref 34, .int x1] (updI w 34 0 0) = some (some (.int r1), w1)) (h2 : ¬ r1 = 0) (h3 : ¬ 0 ≤ x2) : runs (T_X9_layer ex) (0, [.ref 34, .int x1, .int x2, .null], [], w) = some (some (.int (-1)), w1) := 
    (runs_stps (q' := (7, [.ref 34, .int x1, .int x2, .null], [.int x1, .ref 34], updI w 34 0 0)) 5 rfl).trans <|
    (runs_callV (rv := some (.int r1)) (w' := w1) rfl rfl rfl rfl h1).trans <|
    (runs_if_f (a := 17) (b := 13) (L := [.ref 34, .int x1, .int x2, .null]) (st := []) (w := w1) rfl h2).trans <|
    (runs_stps (q' := (14, [.ref 34, .int x1, .int x2, .null], [.int x2], w1)) 1 rfl).trans <|
    (runs_if_f (a := 19) (b := 17) (L := [.ref 34, .int x1, .int x2, .null]) (st := []) (w := w1) rfl h3).trans <|
    (runs_stps (q' := (18, [.null, .null, .null, .null], [.int (-1)], w1)) 1 rfl).trans <|
    runs_ret rfl
theorem p_X9_pupil_0T_R {ex : Ex} {x1 : Int32} {r1 : Int32} {w1 : Wd} {w : Wd} (h1 : ex 153 [.ref 34, .int x1] (updI w 34 0 0) = some (some (.int r1), w1)) (h2 : r1 = 0) : runs (T_X9_pupil ex) (0, [.ref 34, .int x1], [], w) = some (some (.int (-1)), w1) := 
    (runs_stps (q' := (7, [.ref 34, .int x1], [.int x1, .ref 34], updI w 34 0 0)) 5 rfl).trans <|
    (runs_callV (rv := some (.int r1)) (w' := w1) rfl rfl rfl rfl h1).trans <|
    (runs_if_t (a := 22) (b := 13) (L := [.ref 34, .int x1]) (st := []) (w := w1) rfl h2).trans <|
    (runs_stps (q' := (23, [.null, .null], [.int (-1)], w1)) 1 rfl).trans <|
    runs_ret rfl
theorem p_X9_pupil_0F_R {ex : Ex} {x1 : Int32} {r1 : Int32} {w1 : Wd} {w : Wd} (h1 : ex 153 [.ref 34, .int x1] (updI w 34 0 0) = some (some (.int r1), w1)) (h2 : ¬ r1 = 0) (h3 : vp_in x1 6) : runs (T_X9_pupil ex) (0, [.ref 34, .int x1], [], w) = some (some (.int (w1.1 38 x1.toNatClampNeg)), w1) := 
    (runs_stps (q' := (7, [.ref 34, .int x1], [.int x1, .ref 34], updI w 34 0 0)) 5 rfl).trans <|
    (runs_callV (rv := some (.int r1)) (w' := w1) rfl rfl rfl rfl h1).trans <|
    (runs_if_f (a := 22) (b := 13) (L := [.ref 34, .int x1]) (st := []) (w := w1) rfl h2).trans <|
    (runs_stps (q' := (18, [.ref 34, .int x1], [.int x1, .ref 38], w1)) 3 rfl).trans <|
    (runs_ck (q' := (19, [.ref 34, .int x1], [.int (w1.1 38 x1.toNatClampNeg)], w1)) rfl h3).trans <|
    (runs_stps (q' := (23, [.ref 34, .int x1], [.int (w1.1 38 x1.toNatClampNeg)], w1)) 1 rfl).trans <|
    runs_ret rfl
theorem p_X9_may_0T_R {ex : Ex} {x1 : Int32} {x2 : Int32} {w : Wd} (h1 : vp_in x1 6) (h2 : ¬ (((w.1 38 x1.toNatClampNeg) >>> (x2 &&& 31)) &&& 1) = 1) : runs (T_X9_may ex) (0, [.ref 34, .int x1, .int x2], [], w) = some (some (.int 0), w) := 
    (runs_stps (q' := (5, [.ref 34, .int x1, .int x2], [.int x1, .ref 38], w)) 3 rfl).trans <|
    (runs_ck (q' := (6, [.ref 34, .int x1, .int x2], [.int (w.1 38 x1.toNatClampNeg)], w)) rfl h1).trans <|
    (runs_stps (q' := (11, [.ref 34, .int x1, .int x2], [.int 1, .int (((w.1 38 x1.toNatClampNeg) >>> (x2 &&& 31)) &&& 1)], w)) 5 rfl).trans <|
    (runs_if_f (a := 14) (b := 18) (L := [.ref 34, .int x1, .int x2]) (st := []) (w := w) rfl h2).trans <|
    (runs_stps (q' := (19, [.null, .null, .null], [.int 0], w)) 1 rfl).trans <|
    runs_ret rfl
theorem p_X9_may_0F_R {ex : Ex} {x1 : Int32} {x2 : Int32} {w : Wd} (h1 : vp_in x1 6) (h2 : (((w.1 38 x1.toNatClampNeg) >>> (x2 &&& 31)) &&& 1) = 1) : runs (T_X9_may ex) (0, [.ref 34, .int x1, .int x2], [], w) = some (some (.int 1), w) := 
    (runs_stps (q' := (5, [.ref 34, .int x1, .int x2], [.int x1, .ref 38], w)) 3 rfl).trans <|
    (runs_ck (q' := (6, [.ref 34, .int x1, .int x2], [.int (w.1 38 x1.toNatClampNeg)], w)) rfl h1).trans <|
    (runs_stps (q' := (11, [.ref 34, .int x1, .int x2], [.int 1, .int (((w.1 38 x1.toNatClampNeg) >>> (x2 &&& 31)) &&& 1)], w)) 5 rfl).trans <|
    (runs_if_t (a := 14) (b := 18) (L := [.ref 34, .int x1, .int x2]) (st := []) (w := w) rfl h2).trans <|
    (runs_stps (q' := (19, [.ref 34, .int x1, .int x2], [.int 1], w)) 2 rfl).trans <|
    runs_ret rfl
theorem p_X9_becomes_0T_R {ex : Ex} {x1 : Int32} {x2 : Int32} {x3 : Int32} {w : Wd} (h1 : ¬ (w.1 34 23) = 12) (h2 : vp_in (3 * (w.1 34 23)) 36) (h3 : vp_in x1 5) (h4 : vp_in ((3 * (w.1 34 23)) + 1) 36) (h5 : vp_in ((3 * (w.1 34 23)) + 2) 36) (h6 : vp_in x1 5) : runs (T_X9_becomes ex) (0, [.ref 34, .int x1, .int x2, .int x3, .null], [], w) = some (none, updI (updI (updI (updI (updI (updI w 43 ((3 * (w.1 34 23)).toNatClampNeg) x1) 43 (((3 * (w.1 34 23)) + 1).toNatClampNeg) (w.1 40 x1.toNatClampNeg)) 43 (((3 * (w.1 34 23)) + 2).toNatClampNeg) (w.1 40 4)) 34 23 ((w.1 34 23) + 1)) 40 x1.toNatClampNeg x2) 40 4 (((updI (updI (updI (updI (updI w 43 ((3 * (w.1 34 23)).toNatClampNeg) x1) 43 (((3 * (w.1 34 23)) + 1).toNatClampNeg) (w.1 40 x1.toNatClampNeg)) 43 (((3 * (w.1 34 23)) + 2).toNatClampNeg) (w.1 40 4)) 34 23 ((w.1 34 23) + 1)) 40 x1.toNatClampNeg x2).1 40 4) + x3)) := 
    (runs_stps (q' := (6, [.ref 34, .int x1, .int x2, .int x3, .null], [.int 12, .int (w.1 34 23)], w)) 3 rfl).trans <|
    (runs_if_f (a := 9) (b := 47) (L := [.ref 34, .int x1, .int x2, .int x3, .null]) (st := []) (w := w) rfl h1).trans <|
    (runs_stps (q' := (62, [.ref 34, .int x1, .int x2, .int x3, .int (3 * (w.1 34 23))], [.int x1, .int (3 * (w.1 34 23)), .ref 43], w)) 9 rfl).trans <|
    (runs_ck (q' := (63, [.ref 34, .int x1, .int x2, .int x3, .int (3 * (w.1 34 23))], [], updI w 43 ((3 * (w.1 34 23)).toNatClampNeg) x1)) rfl h2).trans <|
    (runs_stps (q' := (76, [.ref 34, .int x1, .int x2, .int x3, .int (3 * (w.1 34 23))], [.int x1, .ref 40, .int ((3 * (w.1 34 23)) + 1), .ref 43], updI w 43 ((3 * (w.1 34 23)).toNatClampNeg) x1)) 8 rfl).trans <|
    (runs_ck (q' := (77, [.ref 34, .int x1, .int x2, .int x3, .int (3 * (w.1 34 23))], [.int (w.1 40 x1.toNatClampNeg), .int ((3 * (w.1 34 23)) + 1), .ref 43], updI w 43 ((3 * (w.1 34 23)).toNatClampNeg) x1)) rfl h3).trans <|
    (runs_ck (q' := (78, [.ref 34, .int x1, .int x2, .int x3, .int (3 * (w.1 34 23))], [], updI (updI w 43 ((3 * (w.1 34 23)).toNatClampNeg) x1) 43 (((3 * (w.1 34 23)) + 1).toNatClampNeg) (w.1 40 x1.toNatClampNeg))) rfl h4).trans <|
    (runs_stps (q' := (92, [.ref 34, .int x1, .int x2, .int x3, .int (3 * (w.1 34 23))], [.int (w.1 40 4), .int ((3 * (w.1 34 23)) + 2), .ref 43], updI (updI w 43 ((3 * (w.1 34 23)).toNatClampNeg) x1) 43 (((3 * (w.1 34 23)) + 1).toNatClampNeg) (w.1 40 x1.toNatClampNeg))) 9 rfl).trans <|
    (runs_ck (q' := (93, [.ref 34, .int x1, .int x2, .int x3, .int (3 * (w.1 34 23))], [], updI (updI (updI w 43 ((3 * (w.1 34 23)).toNatClampNeg) x1) 43 (((3 * (w.1 34 23)) + 1).toNatClampNeg) (w.1 40 x1.toNatClampNeg)) 43 (((3 * (w.1 34 23)) + 2).toNatClampNeg) (w.1 40 4))) rfl h5).trans <|
    (runs_stps (q' := (109, [.ref 34, .int x1, .int x2, .int x3, .int (3 * (w.1 34 23))], [.int x2, .int x1, .ref 40], updI (updI (updI (updI w 43 ((3 * (w.1 34 23)).toNatClampNeg) x1) 43 (((3 * (w.1 34 23)) + 1).toNatClampNeg) (w.1 40 x1.toNatClampNeg)) 43 (((3 * (w.1 34 23)) + 2).toNatClampNeg) (w.1 40 4)) 34 23 ((w.1 34 23) + 1))) 10 rfl).trans <|
    (runs_ck (q' := (110, [.ref 34, .int x1, .int x2, .int x3, .int (3 * (w.1 34 23))], [], updI (updI (updI (updI (updI w 43 ((3 * (w.1 34 23)).toNatClampNeg) x1) 43 (((3 * (w.1 34 23)) + 1).toNatClampNeg) (w.1 40 x1.toNatClampNeg)) 43 (((3 * (w.1 34 23)) + 2).toNatClampNeg) (w.1 40 4)) 34 23 ((w.1 34 23) + 1)) 40 x1.toNatClampNeg x2)) rfl h6).trans <|
    (runs_stps (q' := (120, [.ref 34, .int x1, .int x2, .int x3, .int (3 * (w.1 34 23))], [], updI (updI (updI (updI (updI (updI w 43 ((3 * (w.1 34 23)).toNatClampNeg) x1) 43 (((3 * (w.1 34 23)) + 1).toNatClampNeg) (w.1 40 x1.toNatClampNeg)) 43 (((3 * (w.1 34 23)) + 2).toNatClampNeg) (w.1 40 4)) 34 23 ((w.1 34 23) + 1)) 40 x1.toNatClampNeg x2) 40 4 (((updI (updI (updI (updI (updI w 43 ((3 * (w.1 34 23)).toNatClampNeg) x1) 43 (((3 * (w.1 34 23)) + 1).toNatClampNeg) (w.1 40 x1.toNatClampNeg)) 43 (((3 * (w.1 34 23)) + 2).toNatClampNeg) (w.1 40 4)) 34 23 ((w.1 34 23) + 1)) 40 x1.toNatClampNeg x2).1 40 4) + x3))) 8 rfl).trans <|
    runs_ret rfl
theorem p_X9_becomes_0F_L12 {ex : Ex} {x1 : Int32} {x2 : Int32} {x3 : Int32} {w : Wd} (h1 : (w.1 34 23) = 12) : runs (T_X9_becomes ex) (0, [.ref 34, .int x1, .int x2, .int x3, .null], [], w) = runs (T_X9_becomes ex) (12, [.ref 34, .int x1, .int x2, .int x3, .int 0], [], w) := 
    (runs_stps (q' := (6, [.ref 34, .int x1, .int x2, .int x3, .null], [.int 12, .int (w.1 34 23)], w)) 3 rfl).trans <|
    (runs_if_t (a := 9) (b := 47) (L := [.ref 34, .int x1, .int x2, .int x3, .null]) (st := []) (w := w) rfl h1).trans <|
    (runs_stps (q' := (12, [.ref 34, .int x1, .int x2, .int x3, .int 0], [], w)) 2 rfl).trans <|
    rfl
theorem p_X9_becomes_12T_R {ex : Ex} {x1 : Int32} {x2 : Int32} {x3 : Int32} {x4 : Int32} {w : Wd} (h1 : 33 ≤ x4) (h2 : vp_in x1 5) (h3 : vp_in x1 5) : runs (T_X9_becomes ex) (12, [.ref 34, .int x1, .int x2, .int x3, .int x4], [], w) = some (none, updI (updI (updI (updI (updI (updI (updI w 34 23 11) 43 33 x1) 43 34 (w.1 40 x1.toNatClampNeg)) 43 35 (w.1 40 4)) 34 23 12) 40 x1.toNatClampNeg x2) 40 4 (((updI (updI (updI (updI (updI (updI w 34 23 11) 43 33 x1) 43 34 (w.1 40 x1.toNatClampNeg)) 43 35 (w.1 40 4)) 34 23 12) 40 x1.toNatClampNeg x2).1 40 4) + x3)) := 
    (runs_stps (q' := (16, [.ref 34, .int x1, .int x2, .int x3, .int x4], [.int 33, .int x4], w)) 2 rfl).trans <|
    (runs_if_t (a := 41) (b := 19) (L := [.ref 34, .int x1, .int x2, .int x3, .int x4]) (st := []) (w := w) rfl h1).trans <|
    (runs_stps (q' := (76, [.ref 34, .int x1, .int x2, .int x3, .int 33], [.int x1, .ref 40, .int 34, .ref 43], updI (updI w 34 23 11) 43 33 x1)) 21 rfl).trans <|
    (runs_ck (q' := (77, [.ref 34, .int x1, .int x2, .int x3, .int 33], [.int (w.1 40 x1.toNatClampNeg), .int 34, .ref 43], updI (updI w 34 23 11) 43 33 x1)) rfl h2).trans <|
    (runs_stps (q' := (109, [.ref 34, .int x1, .int x2, .int x3, .int 33], [.int x2, .int x1, .ref 40], updI (updI (updI (updI (updI w 34 23 11) 43 33 x1) 43 34 (w.1 40 x1.toNatClampNeg)) 43 35 (w.1 40 4)) 34 23 12)) 21 rfl).trans <|
    (runs_ck (q' := (110, [.ref 34, .int x1, .int x2, .int x3, .int 33], [], updI (updI (updI (updI (updI (updI w 34 23 11) 43 33 x1) 43 34 (w.1 40 x1.toNatClampNeg)) 43 35 (w.1 40 4)) 34 23 12) 40 x1.toNatClampNeg x2)) rfl h3).trans <|
    (runs_stps (q' := (120, [.ref 34, .int x1, .int x2, .int x3, .int 33], [], updI (updI (updI (updI (updI (updI (updI w 34 23 11) 43 33 x1) 43 34 (w.1 40 x1.toNatClampNeg)) 43 35 (w.1 40 4)) 34 23 12) 40 x1.toNatClampNeg x2) 40 4 (((updI (updI (updI (updI (updI (updI w 34 23 11) 43 33 x1) 43 34 (w.1 40 x1.toNatClampNeg)) 43 35 (w.1 40 4)) 34 23 12) 40 x1.toNatClampNeg x2).1 40 4) + x3))) 8 rfl).trans <|
    runs_ret rfl
theorem p_X9_becomes_12F_L12 {ex : Ex} {x1 : Int32} {x2 : Int32} {x3 : Int32} {x4 : Int32} {w : Wd} (h1 : ¬ 33 ≤ x4) (h2 : vp_in (x4 + 3) 36) (h3 : vp_in x4 36) : runs (T_X9_becomes ex) (12, [.ref 34, .int x1, .int x2, .int x3, .int x4], [], w) = runs (T_X9_becomes ex) (12, [.ref 34, .int x1, .int x2, .int x3, .int (x4 + 1)], [], updI w 43 x4.toNatClampNeg (w.1 43 ((x4 + 3).toNatClampNeg))) := 
    (runs_stps (q' := (16, [.ref 34, .int x1, .int x2, .int x3, .int x4], [.int 33, .int x4], w)) 2 rfl).trans <|
    (runs_if_f (a := 41) (b := 19) (L := [.ref 34, .int x1, .int x2, .int x3, .int x4]) (st := []) (w := w) rfl h1).trans <|
    (runs_stps (q' := (33, [.ref 34, .int x1, .int x2, .int x3, .int x4], [.int (x4 + 3), .ref 43, .int x4, .ref 43], w)) 8 rfl).trans <|
    (runs_ck (q' := (34, [.ref 34, .int x1, .int x2, .int x3, .int x4], [.int (w.1 43 ((x4 + 3).toNatClampNeg)), .int x4, .ref 43], w)) rfl h2).trans <|
    (runs_ck (q' := (35, [.ref 34, .int x1, .int x2, .int x3, .int x4], [], updI w 43 x4.toNatClampNeg (w.1 43 ((x4 + 3).toNatClampNeg)))) rfl h3).trans <|
    (runs_stps (q' := (12, [.ref 34, .int x1, .int x2, .int x3, .int (x4 + 1)], [], updI w 43 x4.toNatClampNeg (w.1 43 ((x4 + 3).toNatClampNeg)))) 2 rfl).trans <|
    rfl
theorem p_X9_lay_0T_R {ex : Ex} {x1 : Int32} {x2 : Int32} {x3 : Int32} {r1 : Int32} {w1 : Wd} {w : Wd} (h1 : ex 153 [.ref 34, .int x1] (updI w 34 0 0) = some (some (.int r1), w1)) (h2 : r1 = 0) : runs (T_X9_lay ex) (0, [.ref 34, .int x1, .int x2, .int x3], [], w) = some (some (.int (-1)), w1) := 
    (runs_stps (q' := (7, [.ref 34, .int x1, .int x2, .int x3], [.int x1, .ref 34], updI w 34 0 0)) 5 rfl).trans <|
    (runs_callV (rv := some (.int r1)) (w' := w1) rfl rfl rfl rfl h1).trans <|
    (runs_if_t (a := 29) (b := 13) (L := [.ref 34, .int x1, .int x2, .int x3]) (st := []) (w := w1) rfl h2).trans <|
    (runs_stps (q' := (30, [.null, .null, .null, .null], [.int (-1)], w1)) 1 rfl).trans <|
    runs_ret rfl
theorem p_X9_lay_0FT_R {ex : Ex} {x1 : Int32} {x2 : Int32} {x3 : Int32} {r1 : Int32} {w1 : Wd} {r2 : Int32} {w2 : Wd} {w : Wd} (h1 : ex 153 [.ref 34, .int x1] (updI w 34 0 0) = some (some (.int r1), w1)) (h2 : ¬ r1 = 0) (h3 : ex 152 [.ref 34, .int x2] w1 = some (some (.int r2), w2)) (h4 : r2 = 0) : runs (T_X9_lay ex) (0, [.ref 34, .int x1, .int x2, .int x3], [], w) = some (some (.int (-1)), w2) := 
    (runs_stps (q' := (7, [.ref 34, .int x1, .int x2, .int x3], [.int x1, .ref 34], updI w 34 0 0)) 5 rfl).trans <|
    (runs_callV (rv := some (.int r1)) (w' := w1) rfl rfl rfl rfl h1).trans <|
    (runs_if_f (a := 29) (b := 13) (L := [.ref 34, .int x1, .int x2, .int x3]) (st := []) (w := w1) rfl h2).trans <|
    (runs_stps (q' := (15, [.ref 34, .int x1, .int x2, .int x3], [.int x2, .ref 34], w1)) 2 rfl).trans <|
    (runs_callV (rv := some (.int r2)) (w' := w2) rfl rfl rfl rfl h3).trans <|
    (runs_if_t (a := 29) (b := 21) (L := [.ref 34, .int x1, .int x2, .int x3]) (st := []) (w := w2) rfl h4).trans <|
    (runs_stps (q' := (30, [.null, .null, .null, .null], [.int (-1)], w2)) 1 rfl).trans <|
    runs_ret rfl
theorem p_X9_lay_0FFTTT_R {ex : Ex} {x1 : Int32} {x2 : Int32} {x3 : Int32} {r1 : Int32} {w1 : Wd} {r2 : Int32} {w2 : Wd} {r3 : Int32} {w3 : Wd} {r4 : Int32} {w4 : Wd} {r5 : Int32} {w5 : Wd} {w6 : Wd} {w : Wd} (h1 : ex 153 [.ref 34, .int x1] (updI w 34 0 0) = some (some (.int r1), w1)) (h2 : ¬ r1 = 0) (h3 : ex 152 [.ref 34, .int x2] w1 = some (some (.int r2), w2)) (h4 : ¬ r2 = 0) (h5 : ex 151 [.ref 34, .int x3] w2 = some (some (.int r3), w3)) (h6 : ¬ r3 = 0) (h7 : ex 161 [.ref 34, .int x1, .int x3] w3 = some (some (.int r4), w4)) (h8 : ¬ r4 = 0) (h9 : vp_in x2 5) (h10 : ex 155 [.int (w4.1 40 x2.toNatClampNeg)] w4 = some (some (.int r5), w5)) (h11 : ¬ r5 = 5) (h12 : vp_in x2 5) (h13 : vp_in ((4 * x3) + 2) 40) (h14 : ex 162 [.ref 34, .int x2, .int (((6 * (w5.1 40 x2.toNatClampNeg)) + x3) + 1), .int (w5.1 36 (((4 * x3) + 2).toNatClampNeg))] w5 = some (none, w6)) (h15 : vp_in ((4 * x3) + 2) 40) : runs (T_X9_lay ex) (0, [.ref 34, .int x1, .int x2, .int x3], [], w) = some (some (.int (w6.1 36 (((4 * x3) + 2).toNatClampNeg))), w6) := 
    (runs_stps (q' := (7, [.ref 34, .int x1, .int x2, .int x3], [.int x1, .ref 34], updI w 34 0 0)) 5 rfl).trans <|
    (runs_callV (rv := some (.int r1)) (w' := w1) rfl rfl rfl rfl h1).trans <|
    (runs_if_f (a := 29) (b := 13) (L := [.ref 34, .int x1, .int x2, .int x3]) (st := []) (w := w1) rfl h2).trans <|
    (runs_stps (q' := (15, [.ref 34, .int x1, .int x2, .int x3], [.int x2, .ref 34], w1)) 2 rfl).trans <|
    (runs_callV (rv := some (.int r2)) (w' := w2) rfl rfl rfl rfl h3).trans <|
    (runs_if_f (a := 29) (b := 21) (L := [.ref 34, .int x1, .int x2, .int x3]) (st := []) (w := w2) rfl h4).trans <|
    (runs_stps (q' := (23, [.ref 34, .int x1, .int x2, .int x3], [.int x3, .ref 34], w2)) 2 rfl).trans <|
    (runs_callV (rv := some (.int r3)) (w' := w3) rfl rfl rfl rfl h5).trans <|
    (runs_if_f (a := 29) (b := 31) (L := [.ref 34, .int x1, .int x2, .int x3]) (st := []) (w := w3) rfl h6).trans <|
    (runs_stps (q' := (34, [.ref 34, .int x1, .int x2, .int x3], [.int x3, .int x1, .ref 34], w3)) 3 rfl).trans <|
    (runs_callV (rv := some (.int r4)) (w' := w4) rfl rfl rfl rfl h7).trans <|
    (runs_if_f (a := 40) (b := 43) (L := [.ref 34, .int x1, .int x2, .int x3]) (st := []) (w := w4) rfl h8).trans <|
    (runs_stps (q' := (48, [.ref 34, .null, .int x2, .int x3], [.int x2, .ref 40], w4)) 3 rfl).trans <|
    (runs_ck (q' := (49, [.ref 34, .null, .int x2, .int x3], [.int (w4.1 40 x2.toNatClampNeg)], w4)) rfl h9).trans <|
    (runs_callS (rv := some (.int r5)) (w' := w5) rfl rfl rfl h10).trans <|
    (runs_stps (q' := (53, [.ref 34, .null, .int x2, .int x3], [.int 5, .int r5], w5)) 1 rfl).trans <|
    (runs_if_f (a := 56) (b := 59) (L := [.ref 34, .null, .int x2, .int x3]) (st := []) (w := w5) rfl h11).trans <|
    (runs_stps (q' := (68, [.ref 34, .null, .int x2, .int x3], [.int x2, .ref 40, .int 6, .int x2, .ref 34], w5)) 6 rfl).trans <|
    (runs_ck (q' := (69, [.ref 34, .null, .int x2, .int x3], [.int (w5.1 40 x2.toNatClampNeg), .int 6, .int x2, .ref 34], w5)) rfl h12).trans <|
    (runs_stps (q' := (83, [.ref 34, .null, .int x2, .int x3], [.int ((4 * x3) + 2), .ref 36, .int (((6 * (w5.1 40 x2.toNatClampNeg)) + x3) + 1), .int x2, .ref 34], w5)) 12 rfl).trans <|
    (runs_ck (q' := (84, [.ref 34, .null, .int x2, .int x3], [.int (w5.1 36 (((4 * x3) + 2).toNatClampNeg)), .int (((6 * (w5.1 40 x2.toNatClampNeg)) + x3) + 1), .int x2, .ref 34], w5)) rfl h13).trans <|
    (runs_callV (rv := none) (w' := w6) rfl rfl rfl rfl h14).trans <|
    (runs_stps (q' := (96, [.ref 34, .null, .int x2, .int x3], [.int ((4 * x3) + 2), .ref 36], w6)) 7 rfl).trans <|
    (runs_ck (q' := (97, [.ref 34, .null, .int x2, .int x3], [.int (w6.1 36 (((4 * x3) + 2).toNatClampNeg))], w6)) rfl h15).trans <|
    runs_ret rfl
theorem p_X9_lay_0FFTTF_R {ex : Ex} {x1 : Int32} {x2 : Int32} {x3 : Int32} {r1 : Int32} {w1 : Wd} {r2 : Int32} {w2 : Wd} {r3 : Int32} {w3 : Wd} {r4 : Int32} {w4 : Wd} {r5 : Int32} {w5 : Wd} {w : Wd} (h1 : ex 153 [.ref 34, .int x1] (updI w 34 0 0) = some (some (.int r1), w1)) (h2 : ¬ r1 = 0) (h3 : ex 152 [.ref 34, .int x2] w1 = some (some (.int r2), w2)) (h4 : ¬ r2 = 0) (h5 : ex 151 [.ref 34, .int x3] w2 = some (some (.int r3), w3)) (h6 : ¬ r3 = 0) (h7 : ex 161 [.ref 34, .int x1, .int x3] w3 = some (some (.int r4), w4)) (h8 : ¬ r4 = 0) (h9 : vp_in x2 5) (h10 : ex 155 [.int (w4.1 40 x2.toNatClampNeg)] w4 = some (some (.int r5), w5)) (h11 : r5 = 5) : runs (T_X9_lay ex) (0, [.ref 34, .int x1, .int x2, .int x3], [], w) = some (some (.int (-3)), w5) := 
    (runs_stps (q' := (7, [.ref 34, .int x1, .int x2, .int x3], [.int x1, .ref 34], updI w 34 0 0)) 5 rfl).trans <|
    (runs_callV (rv := some (.int r1)) (w' := w1) rfl rfl rfl rfl h1).trans <|
    (runs_if_f (a := 29) (b := 13) (L := [.ref 34, .int x1, .int x2, .int x3]) (st := []) (w := w1) rfl h2).trans <|
    (runs_stps (q' := (15, [.ref 34, .int x1, .int x2, .int x3], [.int x2, .ref 34], w1)) 2 rfl).trans <|
    (runs_callV (rv := some (.int r2)) (w' := w2) rfl rfl rfl rfl h3).trans <|
    (runs_if_f (a := 29) (b := 21) (L := [.ref 34, .int x1, .int x2, .int x3]) (st := []) (w := w2) rfl h4).trans <|
    (runs_stps (q' := (23, [.ref 34, .int x1, .int x2, .int x3], [.int x3, .ref 34], w2)) 2 rfl).trans <|
    (runs_callV (rv := some (.int r3)) (w' := w3) rfl rfl rfl rfl h5).trans <|
    (runs_if_f (a := 29) (b := 31) (L := [.ref 34, .int x1, .int x2, .int x3]) (st := []) (w := w3) rfl h6).trans <|
    (runs_stps (q' := (34, [.ref 34, .int x1, .int x2, .int x3], [.int x3, .int x1, .ref 34], w3)) 3 rfl).trans <|
    (runs_callV (rv := some (.int r4)) (w' := w4) rfl rfl rfl rfl h7).trans <|
    (runs_if_f (a := 40) (b := 43) (L := [.ref 34, .int x1, .int x2, .int x3]) (st := []) (w := w4) rfl h8).trans <|
    (runs_stps (q' := (48, [.ref 34, .null, .int x2, .int x3], [.int x2, .ref 40], w4)) 3 rfl).trans <|
    (runs_ck (q' := (49, [.ref 34, .null, .int x2, .int x3], [.int (w4.1 40 x2.toNatClampNeg)], w4)) rfl h9).trans <|
    (runs_callS (rv := some (.int r5)) (w' := w5) rfl rfl rfl h10).trans <|
    (runs_stps (q' := (53, [.ref 34, .null, .int x2, .int x3], [.int 5, .int r5], w5)) 1 rfl).trans <|
    (runs_if_t (a := 56) (b := 59) (L := [.ref 34, .null, .int x2, .int x3]) (st := []) (w := w5) rfl h11).trans <|
    (runs_stps (q' := (58, [.ref 34, .null, .int x2, .int x3], [.int (-3)], w5)) 1 rfl).trans <|
    runs_ret rfl
theorem p_X9_lay_0FFTF_R {ex : Ex} {x1 : Int32} {x2 : Int32} {x3 : Int32} {r1 : Int32} {w1 : Wd} {r2 : Int32} {w2 : Wd} {r3 : Int32} {w3 : Wd} {r4 : Int32} {w4 : Wd} {w : Wd} (h1 : ex 153 [.ref 34, .int x1] (updI w 34 0 0) = some (some (.int r1), w1)) (h2 : ¬ r1 = 0) (h3 : ex 152 [.ref 34, .int x2] w1 = some (some (.int r2), w2)) (h4 : ¬ r2 = 0) (h5 : ex 151 [.ref 34, .int x3] w2 = some (some (.int r3), w3)) (h6 : ¬ r3 = 0) (h7 : ex 161 [.ref 34, .int x1, .int x3] w3 = some (some (.int r4), w4)) (h8 : r4 = 0) : runs (T_X9_lay ex) (0, [.ref 34, .int x1, .int x2, .int x3], [], w) = some (some (.int (-2)), w4) := 
    (runs_stps (q' := (7, [.ref 34, .int x1, .int x2, .int x3], [.int x1, .ref 34], updI w 34 0 0)) 5 rfl).trans <|
    (runs_callV (rv := some (.int r1)) (w' := w1) rfl rfl rfl rfl h1).trans <|
    (runs_if_f (a := 29) (b := 13) (L := [.ref 34, .int x1, .int x2, .int x3]) (st := []) (w := w1) rfl h2).trans <|
    (runs_stps (q' := (15, [.ref 34, .int x1, .int x2, .int x3], [.int x2, .ref 34], w1)) 2 rfl).trans <|
    (runs_callV (rv := some (.int r2)) (w' := w2) rfl rfl rfl rfl h3).trans <|
    (runs_if_f (a := 29) (b := 21) (L := [.ref 34, .int x1, .int x2, .int x3]) (st := []) (w := w2) rfl h4).trans <|
    (runs_stps (q' := (23, [.ref 34, .int x1, .int x2, .int x3], [.int x3, .ref 34], w2)) 2 rfl).trans <|
    (runs_callV (rv := some (.int r3)) (w' := w3) rfl rfl rfl rfl h5).trans <|
    (runs_if_f (a := 29) (b := 31) (L := [.ref 34, .int x1, .int x2, .int x3]) (st := []) (w := w3) rfl h6).trans <|
    (runs_stps (q' := (34, [.ref 34, .int x1, .int x2, .int x3], [.int x3, .int x1, .ref 34], w3)) 3 rfl).trans <|
    (runs_callV (rv := some (.int r4)) (w' := w4) rfl rfl rfl rfl h7).trans <|
    (runs_if_t (a := 40) (b := 43) (L := [.ref 34, .int x1, .int x2, .int x3]) (st := []) (w := w4) rfl h8).trans <|
    (runs_stps (q' := (42, [.ref 34, .int x1, .int x2, .int x3], [.int (-2)], w4)) 1 rfl).trans <|
    runs_ret rfl
theorem p_X9_lay_0FFF_R {ex : Ex} {x1 : Int32} {x2 : Int32} {x3 : Int32} {r1 : Int32} {w1 : Wd} {r2 : Int32} {w2 : Wd} {r3 : Int32} {w3 : Wd} {w : Wd} (h1 : ex 153 [.ref 34, .int x1] (updI w 34 0 0) = some (some (.int r1), w1)) (h2 : ¬ r1 = 0) (h3 : ex 152 [.ref 34, .int x2] w1 = some (some (.int r2), w2)) (h4 : ¬ r2 = 0) (h5 : ex 151 [.ref 34, .int x3] w2 = some (some (.int r3), w3)) (h6 : r3 = 0) : runs (T_X9_lay ex) (0, [.ref 34, .int x1, .int x2, .int x3], [], w) = some (some (.int (-1)), w3) := 
    (runs_stps (q' := (7, [.ref 34, .int x1, .int x2, .int x3], [.int x1, .ref 34], updI w 34 0 0)) 5 rfl).trans <|
    (runs_callV (rv := some (.int r1)) (w' := w1) rfl rfl rfl rfl h1).trans <|
    (runs_if_f (a := 29) (b := 13) (L := [.ref 34, .int x1, .int x2, .int x3]) (st := []) (w := w1) rfl h2).trans <|
    (runs_stps (q' := (15, [.ref 34, .int x1, .int x2, .int x3], [.int x2, .ref 34], w1)) 2 rfl).trans <|
    (runs_callV (rv := some (.int r2)) (w' := w2) rfl rfl rfl rfl h3).trans <|
    (runs_if_f (a := 29) (b := 21) (L := [.ref 34, .int x1, .int x2, .int x3]) (st := []) (w := w2) rfl h4).trans <|
    (runs_stps (q' := (23, [.ref 34, .int x1, .int x2, .int x3], [.int x3, .ref 34], w2)) 2 rfl).trans <|
    (runs_callV (rv := some (.int r3)) (w' := w3) rfl rfl rfl rfl h5).trans <|
    (runs_if_t (a := 29) (b := 31) (L := [.ref 34, .int x1, .int x2, .int x3]) (st := []) (w := w3) rfl h6).trans <|
    (runs_stps (q' := (30, [.null, .null, .null, .null], [.int (-1)], w3)) 1 rfl).trans <|
    runs_ret rfl
theorem p_X9_lift_0T_R {ex : Ex} {x1 : Int32} {x2 : Int32} {r1 : Int32} {w1 : Wd} {w : Wd} (h1 : ex 153 [.ref 34, .int x1] (updI w 34 0 0) = some (some (.int r1), w1)) (h2 : r1 = 0) : runs (T_X9_lift ex) (0, [.ref 34, .int x1, .int x2, .null], [], w) = some (some (.int (-1)), w1) := 
    (runs_stps (q' := (7, [.ref 34, .int x1, .int x2, .null], [.int x1, .ref 34], updI w 34 0 0)) 5 rfl).trans <|
    (runs_callV (rv := some (.int r1)) (w' := w1) rfl rfl rfl rfl h1).trans <|
    (runs_if_t (a := 21) (b := 13) (L := [.ref 34, .int x1, .int x2, .null]) (st := []) (w := w1) rfl h2).trans <|
    (runs_stps (q' := (22, [.null, .null, .null, .null], [.int (-1)], w1)) 1 rfl).trans <|
    runs_ret rfl
theorem p_X9_lift_0FTT_R {ex : Ex} {x1 : Int32} {x2 : Int32} {r1 : Int32} {w1 : Wd} {r2 : Int32} {w2 : Wd} {r3 : Int32} {w3 : Wd} {w : Wd} (h1 : ex 153 [.ref 34, .int x1] (updI w 34 0 0) = some (some (.int r1), w1)) (h2 : ¬ r1 = 0) (h3 : ex 152 [.ref 34, .int x2] w1 = some (some (.int r2), w2)) (h4 : ¬ r2 = 0) (h5 : vp_in x2 5) (h6 : ex 158 [.int (w2.1 40 x2.toNatClampNeg), .int 0] w2 = some (some (.int r3), w3)) (h7 : r3 = (-9)) : runs (T_X9_lift ex) (0, [.ref 34, .int x1, .int x2, .null], [], w) = some (some (.int (-2)), w3) := 
    (runs_stps (q' := (7, [.ref 34, .int x1, .int x2, .null], [.int x1, .ref 34], updI w 34 0 0)) 5 rfl).trans <|
    (runs_callV (rv := some (.int r1)) (w' := w1) rfl rfl rfl rfl h1).trans <|
    (runs_if_f (a := 21) (b := 13) (L := [.ref 34, .int x1, .int x2, .null]) (st := []) (w := w1) rfl h2).trans <|
    (runs_stps (q' := (15, [.ref 34, .int x1, .int x2, .null], [.int x2, .ref 34], w1)) 2 rfl).trans <|
    (runs_callV (rv := some (.int r2)) (w' := w2) rfl rfl rfl rfl h3).trans <|
    (runs_if_f (a := 21) (b := 23) (L := [.ref 34, .int x1, .int x2, .null]) (st := []) (w := w2) rfl h4).trans <|
    (runs_stps (q' := (28, [.ref 34, .int x1, .int x2, .null], [.int x2, .ref 40], w2)) 3 rfl).trans <|
    (runs_ck (q' := (29, [.ref 34, .int x1, .int x2, .null], [.int (w2.1 40 x2.toNatClampNeg)], w2)) rfl h5).trans <|
    (runs_stps (q' := (30, [.ref 34, .int x1, .int x2, .null], [.int 0, .int (w2.1 40 x2.toNatClampNeg)], w2)) 1 rfl).trans <|
    (runs_callS (rv := some (.int r3)) (w' := w3) rfl rfl rfl h6).trans <|
    (runs_stps (q' := (37, [.ref 34, .int x1, .int x2, .int r3], [.int (-9), .int r3], w3)) 3 rfl).trans <|
    (runs_if_t (a := 49) (b := 40) (L := [.ref 34, .int x1, .int x2, .int r3]) (st := []) (w := w3) rfl h7).trans <|
    (runs_stps (q' := (51, [.null, .null, .null, .null], [.int (-2)], w3)) 1 rfl).trans <|
    runs_ret rfl
theorem p_X9_lift_0FTFT_R {ex : Ex} {x1 : Int32} {x2 : Int32} {r1 : Int32} {w1 : Wd} {r2 : Int32} {w2 : Wd} {r3 : Int32} {w3 : Wd} {r4 : Int32} {w4 : Wd} {w5 : Wd} {w : Wd} (h1 : ex 153 [.ref 34, .int x1] (updI w 34 0 0) = some (some (.int r1), w1)) (h2 : ¬ r1 = 0) (h3 : ex 152 [.ref 34, .int x2] w1 = some (some (.int r2), w2)) (h4 : ¬ r2 = 0) (h5 : vp_in x2 5) (h6 : ex 158 [.int (w2.1 40 x2.toNatClampNeg), .int 0] w2 = some (some (.int r3), w3)) (h7 : ¬ r3 = (-9)) (h8 : ex 161 [.ref 34, .int x1, .int r3] w3 = some (some (.int r4), w4)) (h9 : ¬ r4 = 0) (h10 : vp_in x2 5) (h11 : vp_in ((4 * r3) + 3) 40) (h12 : ex 162 [.ref 34, .int x2, .int ((w4.1 40 x2.toNatClampNeg) / 6), .int (w4.1 36 (((4 * r3) + 3).toNatClampNeg))] w4 = some (none, w5)) : runs (T_X9_lift ex) (0, [.ref 34, .int x1, .int x2, .null], [], w) = some (some (.int r3), w5) := 
    (runs_stps (q' := (7, [.ref 34, .int x1, .int x2, .null], [.int x1, .ref 34], updI w 34 0 0)) 5 rfl).trans <|
    (runs_callV (rv := some (.int r1)) (w' := w1) rfl rfl rfl rfl h1).trans <|
    (runs_if_f (a := 21) (b := 13) (L := [.ref 34, .int x1, .int x2, .null]) (st := []) (w := w1) rfl h2).trans <|
    (runs_stps (q' := (15, [.ref 34, .int x1, .int x2, .null], [.int x2, .ref 34], w1)) 2 rfl).trans <|
    (runs_callV (rv := some (.int r2)) (w' := w2) rfl rfl rfl rfl h3).trans <|
    (runs_if_f (a := 21) (b := 23) (L := [.ref 34, .int x1, .int x2, .null]) (st := []) (w := w2) rfl h4).trans <|
    (runs_stps (q' := (28, [.ref 34, .int x1, .int x2, .null], [.int x2, .ref 40], w2)) 3 rfl).trans <|
    (runs_ck (q' := (29, [.ref 34, .int x1, .int x2, .null], [.int (w2.1 40 x2.toNatClampNeg)], w2)) rfl h5).trans <|
    (runs_stps (q' := (30, [.ref 34, .int x1, .int x2, .null], [.int 0, .int (w2.1 40 x2.toNatClampNeg)], w2)) 1 rfl).trans <|
    (runs_callS (rv := some (.int r3)) (w' := w3) rfl rfl rfl h6).trans <|
    (runs_stps (q' := (37, [.ref 34, .int x1, .int x2, .int r3], [.int (-9), .int r3], w3)) 3 rfl).trans <|
    (runs_if_f (a := 49) (b := 40) (L := [.ref 34, .int x1, .int x2, .int r3]) (st := []) (w := w3) rfl h7).trans <|
    (runs_stps (q' := (43, [.ref 34, .int x1, .int x2, .int r3], [.int r3, .int x1, .ref 34], w3)) 3 rfl).trans <|
    (runs_callV (rv := some (.int r4)) (w' := w4) rfl rfl rfl rfl h8).trans <|
    (runs_if_f (a := 49) (b := 52) (L := [.ref 34, .int x1, .int x2, .int r3]) (st := []) (w := w4) rfl h9).trans <|
    (runs_stps (q' := (59, [.ref 34, .null, .int x2, .int r3], [.int x2, .ref 40, .int x2, .ref 34], w4)) 5 rfl).trans <|
    (runs_ck (q' := (60, [.ref 34, .null, .int x2, .int r3], [.int (w4.1 40 x2.toNatClampNeg), .int x2, .ref 34], w4)) rfl h10).trans <|
    (runs_stps (q' := (72, [.ref 34, .null, .int x2, .int r3], [.int ((4 * r3) + 3), .ref 36, .int ((w4.1 40 x2.toNatClampNeg) / 6), .int x2, .ref 34], w4)) 9 rfl).trans <|
    (runs_ck (q' := (73, [.ref 34, .null, .int x2, .int r3], [.int (w4.1 36 (((4 * r3) + 3).toNatClampNeg)), .int ((w4.1 40 x2.toNatClampNeg) / 6), .int x2, .ref 34], w4)) rfl h11).trans <|
    (runs_callV (rv := none) (w' := w5) rfl rfl rfl rfl h12).trans <|
    (runs_stps (q' := (77, [.ref 34, .null, .int x2, .int r3], [.int r3], w5)) 1 rfl).trans <|
    runs_ret rfl
theorem p_X9_lift_0FTFF_R {ex : Ex} {x1 : Int32} {x2 : Int32} {r1 : Int32} {w1 : Wd} {r2 : Int32} {w2 : Wd} {r3 : Int32} {w3 : Wd} {r4 : Int32} {w4 : Wd} {w : Wd} (h1 : ex 153 [.ref 34, .int x1] (updI w 34 0 0) = some (some (.int r1), w1)) (h2 : ¬ r1 = 0) (h3 : ex 152 [.ref 34, .int x2] w1 = some (some (.int r2), w2)) (h4 : ¬ r2 = 0) (h5 : vp_in x2 5) (h6 : ex 158 [.int (w2.1 40 x2.toNatClampNeg), .int 0] w2 = some (some (.int r3), w3)) (h7 : ¬ r3 = (-9)) (h8 : ex 161 [.ref 34, .int x1, .int r3] w3 = some (some (.int r4), w4)) (h9 : r4 = 0) : runs (T_X9_lift ex) (0, [.ref 34, .int x1, .int x2, .null], [], w) = some (some (.int (-2)), w4) := 
    (runs_stps (q' := (7, [.ref 34, .int x1, .int x2, .null], [.int x1, .ref 34], updI w 34 0 0)) 5 rfl).trans <|
    (runs_callV (rv := some (.int r1)) (w' := w1) rfl rfl rfl rfl h1).trans <|
    (runs_if_f (a := 21) (b := 13) (L := [.ref 34, .int x1, .int x2, .null]) (st := []) (w := w1) rfl h2).trans <|
    (runs_stps (q' := (15, [.ref 34, .int x1, .int x2, .null], [.int x2, .ref 34], w1)) 2 rfl).trans <|
    (runs_callV (rv := some (.int r2)) (w' := w2) rfl rfl rfl rfl h3).trans <|
    (runs_if_f (a := 21) (b := 23) (L := [.ref 34, .int x1, .int x2, .null]) (st := []) (w := w2) rfl h4).trans <|
    (runs_stps (q' := (28, [.ref 34, .int x1, .int x2, .null], [.int x2, .ref 40], w2)) 3 rfl).trans <|
    (runs_ck (q' := (29, [.ref 34, .int x1, .int x2, .null], [.int (w2.1 40 x2.toNatClampNeg)], w2)) rfl h5).trans <|
    (runs_stps (q' := (30, [.ref 34, .int x1, .int x2, .null], [.int 0, .int (w2.1 40 x2.toNatClampNeg)], w2)) 1 rfl).trans <|
    (runs_callS (rv := some (.int r3)) (w' := w3) rfl rfl rfl h6).trans <|
    (runs_stps (q' := (37, [.ref 34, .int x1, .int x2, .int r3], [.int (-9), .int r3], w3)) 3 rfl).trans <|
    (runs_if_f (a := 49) (b := 40) (L := [.ref 34, .int x1, .int x2, .int r3]) (st := []) (w := w3) rfl h7).trans <|
    (runs_stps (q' := (43, [.ref 34, .int x1, .int x2, .int r3], [.int r3, .int x1, .ref 34], w3)) 3 rfl).trans <|
    (runs_callV (rv := some (.int r4)) (w' := w4) rfl rfl rfl rfl h8).trans <|
    (runs_if_t (a := 49) (b := 52) (L := [.ref 34, .int x1, .int x2, .int r3]) (st := []) (w := w4) rfl h9).trans <|
    (runs_stps (q' := (51, [.null, .null, .null, .null], [.int (-2)], w4)) 1 rfl).trans <|
    runs_ret rfl
theorem p_X9_lift_0FF_R {ex : Ex} {x1 : Int32} {x2 : Int32} {r1 : Int32} {w1 : Wd} {r2 : Int32} {w2 : Wd} {w : Wd} (h1 : ex 153 [.ref 34, .int x1] (updI w 34 0 0) = some (some (.int r1), w1)) (h2 : ¬ r1 = 0) (h3 : ex 152 [.ref 34, .int x2] w1 = some (some (.int r2), w2)) (h4 : r2 = 0) : runs (T_X9_lift ex) (0, [.ref 34, .int x1, .int x2, .null], [], w) = some (some (.int (-1)), w2) := 
    (runs_stps (q' := (7, [.ref 34, .int x1, .int x2, .null], [.int x1, .ref 34], updI w 34 0 0)) 5 rfl).trans <|
    (runs_callV (rv := some (.int r1)) (w' := w1) rfl rfl rfl rfl h1).trans <|
    (runs_if_f (a := 21) (b := 13) (L := [.ref 34, .int x1, .int x2, .null]) (st := []) (w := w1) rfl h2).trans <|
    (runs_stps (q' := (15, [.ref 34, .int x1, .int x2, .null], [.int x2, .ref 34], w1)) 2 rfl).trans <|
    (runs_callV (rv := some (.int r2)) (w' := w2) rfl rfl rfl rfl h3).trans <|
    (runs_if_t (a := 21) (b := 23) (L := [.ref 34, .int x1, .int x2, .null]) (st := []) (w := w2) rfl h4).trans <|
    (runs_stps (q' := (22, [.null, .null, .null, .null], [.int (-1)], w2)) 1 rfl).trans <|
    runs_ret rfl
theorem p_X9_swapped_0_R {ex : Ex} {x0 : Int32} {w : Wd} : runs (T_X9_swapped ex) (0, [.int x0], [], w) = some (some (.int ((((x0 / 36) * 36) + ((x0 - x0 / 6 * 6) * 6)) + ((x0 / 6) - (x0 / 6) / 6 * 6))), w) := 
    (runs_stps (q' := (23, [.int x0], [.int ((((x0 / 36) * 36) + ((x0 - x0 / 6 * 6) * 6)) + ((x0 / 6) - (x0 / 6) / 6 * 6))], w)) 17 rfl).trans <|
    runs_ret rfl
theorem p_X9_swap_0T_R {ex : Ex} {x1 : Int32} {x2 : Int32} {r1 : Int32} {w1 : Wd} {w : Wd} (h1 : ex 153 [.ref 34, .int x1] (updI w 34 0 0) = some (some (.int r1), w1)) (h2 : r1 = 0) : runs (T_X9_swap ex) (0, [.ref 34, .int x1, .int x2, .null, .null], [], w) = some (some (.int (-1)), w1) := 
    (runs_stps (q' := (7, [.ref 34, .int x1, .int x2, .null, .null], [.int x1, .ref 34], updI w 34 0 0)) 5 rfl).trans <|
    (runs_callV (rv := some (.int r1)) (w' := w1) rfl rfl rfl rfl h1).trans <|
    (runs_if_t (a := 21) (b := 13) (L := [.ref 34, .int x1, .int x2, .null, .null]) (st := []) (w := w1) rfl h2).trans <|
    (runs_stps (q' := (22, [.null, .null, .null, .null, .null], [.int (-1)], w1)) 1 rfl).trans <|
    runs_ret rfl
theorem p_X9_swap_0FTT_R {ex : Ex} {x1 : Int32} {x2 : Int32} {r1 : Int32} {w1 : Wd} {r2 : Int32} {w2 : Wd} {r3 : Int32} {w3 : Wd} {r4 : Int32} {w4 : Wd} {w : Wd} (h1 : ex 153 [.ref 34, .int x1] (updI w 34 0 0) = some (some (.int r1), w1)) (h2 : ¬ r1 = 0) (h3 : ex 152 [.ref 34, .int x2] w1 = some (some (.int r2), w2)) (h4 : ¬ r2 = 0) (h5 : vp_in x2 5) (h6 : ex 158 [.int (w2.1 40 x2.toNatClampNeg), .int 0] w2 = some (some (.int r3), w3)) (h7 : vp_in x2 5) (h8 : ex 158 [.int (w3.1 40 x2.toNatClampNeg), .int 1] w3 = some (some (.int r4), w4)) (h9 : r4 = (-9)) : runs (T_X9_swap ex) (0, [.ref 34, .int x1, .int x2, .null, .null], [], w) = some (some (.int (-2)), w4) := 
    (runs_stps (q' := (7, [.ref 34, .int x1, .int x2, .null, .null], [.int x1, .ref 34], updI w 34 0 0)) 5 rfl).trans <|
    (runs_callV (rv := some (.int r1)) (w' := w1) rfl rfl rfl rfl h1).trans <|
    (runs_if_f (a := 21) (b := 13) (L := [.ref 34, .int x1, .int x2, .null, .null]) (st := []) (w := w1) rfl h2).trans <|
    (runs_stps (q' := (15, [.ref 34, .int x1, .int x2, .null, .null], [.int x2, .ref 34], w1)) 2 rfl).trans <|
    (runs_callV (rv := some (.int r2)) (w' := w2) rfl rfl rfl rfl h3).trans <|
    (runs_if_f (a := 21) (b := 23) (L := [.ref 34, .int x1, .int x2, .null, .null]) (st := []) (w := w2) rfl h4).trans <|
    (runs_stps (q' := (28, [.ref 34, .int x1, .int x2, .null, .null], [.int x2, .ref 40], w2)) 3 rfl).trans <|
    (runs_ck (q' := (29, [.ref 34, .int x1, .int x2, .null, .null], [.int (w2.1 40 x2.toNatClampNeg)], w2)) rfl h5).trans <|
    (runs_stps (q' := (30, [.ref 34, .int x1, .int x2, .null, .null], [.int 0, .int (w2.1 40 x2.toNatClampNeg)], w2)) 1 rfl).trans <|
    (runs_callS (rv := some (.int r3)) (w' := w3) rfl rfl rfl h6).trans <|
    (runs_stps (q' := (39, [.ref 34, .int x1, .int x2, .int r3, .null], [.int x2, .ref 40], w3)) 4 rfl).trans <|
    (runs_ck (q' := (40, [.ref 34, .int x1, .int x2, .int r3, .null], [.int (w3.1 40 x2.toNatClampNeg)], w3)) rfl h7).trans <|
    (runs_stps (q' := (41, [.ref 34, .int x1, .int x2, .int r3, .null], [.int 1, .int (w3.1 40 x2.toNatClampNeg)], w3)) 1 rfl).trans <|
    (runs_callS (rv := some (.int r4)) (w' := w4) rfl rfl rfl h8).trans <|
    (runs_stps (q' := (50, [.ref 34, .int x1, .int x2, .int r3, .int r4], [.int (-9), .int r4], w4)) 3 rfl).trans <|
    (runs_if_t (a := 72) (b := 53) (L := [.ref 34, .int x1, .int x2, .int r3, .int r4]) (st := []) (w := w4) rfl h9).trans <|
    (runs_stps (q' := (74, [.null, .null, .null, .null, .null], [.int (-2)], w4)) 1 rfl).trans <|
    runs_ret rfl
theorem p_X9_swap_0FTFT_R {ex : Ex} {x1 : Int32} {x2 : Int32} {r1 : Int32} {w1 : Wd} {r2 : Int32} {w2 : Wd} {r3 : Int32} {w3 : Wd} {r4 : Int32} {w4 : Wd} {r5 : Int32} {w5 : Wd} {w : Wd} (h1 : ex 153 [.ref 34, .int x1] (updI w 34 0 0) = some (some (.int r1), w1)) (h2 : ¬ r1 = 0) (h3 : ex 152 [.ref 34, .int x2] w1 = some (some (.int r2), w2)) (h4 : ¬ r2 = 0) (h5 : vp_in x2 5) (h6 : ex 158 [.int (w2.1 40 x2.toNatClampNeg), .int 0] w2 = some (some (.int r3), w3)) (h7 : vp_in x2 5) (h8 : ex 158 [.int (w3.1 40 x2.toNatClampNeg), .int 1] w3 = some (some (.int r4), w4)) (h9 : ¬ r4 = (-9)) (h10 : ex 161 [.ref 34, .int x1, .int r3] w4 = some (some (.int r5), w5)) (h11 : r5 = 0) : runs (T_X9_swap ex) (0, [.ref 34, .int x1, .int x2, .null, .null], [], w) = some (some (.int (-2)), w5) := 
    (runs_stps (q' := (7, [.ref 34, .int x1, .int x2, .null, .null], [.int x1, .ref 34], updI w 34 0 0)) 5 rfl).trans <|
    (runs_callV (rv := some (.int r1)) (w' := w1) rfl rfl rfl rfl h1).trans <|
    (runs_if_f (a := 21) (b := 13) (L := [.ref 34, .int x1, .int x2, .null, .null]) (st := []) (w := w1) rfl h2).trans <|
    (runs_stps (q' := (15, [.ref 34, .int x1, .int x2, .null, .null], [.int x2, .ref 34], w1)) 2 rfl).trans <|
    (runs_callV (rv := some (.int r2)) (w' := w2) rfl rfl rfl rfl h3).trans <|
    (runs_if_f (a := 21) (b := 23) (L := [.ref 34, .int x1, .int x2, .null, .null]) (st := []) (w := w2) rfl h4).trans <|
    (runs_stps (q' := (28, [.ref 34, .int x1, .int x2, .null, .null], [.int x2, .ref 40], w2)) 3 rfl).trans <|
    (runs_ck (q' := (29, [.ref 34, .int x1, .int x2, .null, .null], [.int (w2.1 40 x2.toNatClampNeg)], w2)) rfl h5).trans <|
    (runs_stps (q' := (30, [.ref 34, .int x1, .int x2, .null, .null], [.int 0, .int (w2.1 40 x2.toNatClampNeg)], w2)) 1 rfl).trans <|
    (runs_callS (rv := some (.int r3)) (w' := w3) rfl rfl rfl h6).trans <|
    (runs_stps (q' := (39, [.ref 34, .int x1, .int x2, .int r3, .null], [.int x2, .ref 40], w3)) 4 rfl).trans <|
    (runs_ck (q' := (40, [.ref 34, .int x1, .int x2, .int r3, .null], [.int (w3.1 40 x2.toNatClampNeg)], w3)) rfl h7).trans <|
    (runs_stps (q' := (41, [.ref 34, .int x1, .int x2, .int r3, .null], [.int 1, .int (w3.1 40 x2.toNatClampNeg)], w3)) 1 rfl).trans <|
    (runs_callS (rv := some (.int r4)) (w' := w4) rfl rfl rfl h8).trans <|
    (runs_stps (q' := (50, [.ref 34, .int x1, .int x2, .int r3, .int r4], [.int (-9), .int r4], w4)) 3 rfl).trans <|
    (runs_if_f (a := 72) (b := 53) (L := [.ref 34, .int x1, .int x2, .int r3, .int r4]) (st := []) (w := w4) rfl h9).trans <|
    (runs_stps (q' := (56, [.ref 34, .int x1, .int x2, .int r3, .int r4], [.int r3, .int x1, .ref 34], w4)) 3 rfl).trans <|
    (runs_callV (rv := some (.int r5)) (w' := w5) rfl rfl rfl rfl h10).trans <|
    (runs_if_t (a := 72) (b := 62) (L := [.ref 34, .int x1, .int x2, .int r3, .int r4]) (st := []) (w := w5) rfl h11).trans <|
    (runs_stps (q' := (74, [.null, .null, .null, .null, .null], [.int (-2)], w5)) 1 rfl).trans <|
    runs_ret rfl
theorem p_X9_swap_0FTFFT_R {ex : Ex} {x1 : Int32} {x2 : Int32} {r1 : Int32} {w1 : Wd} {r2 : Int32} {w2 : Wd} {r3 : Int32} {w3 : Wd} {r4 : Int32} {w4 : Wd} {r5 : Int32} {w5 : Wd} {r6 : Int32} {w6 : Wd} {r7 : Int32} {w7 : Wd} {w8 : Wd} {w : Wd} (h1 : ex 153 [.ref 34, .int x1] (updI w 34 0 0) = some (some (.int r1), w1)) (h2 : ¬ r1 = 0) (h3 : ex 152 [.ref 34, .int x2] w1 = some (some (.int r2), w2)) (h4 : ¬ r2 = 0) (h5 : vp_in x2 5) (h6 : ex 158 [.int (w2.1 40 x2.toNatClampNeg), .int 0] w2 = some (some (.int r3), w3)) (h7 : vp_in x2 5) (h8 : ex 158 [.int (w3.1 40 x2.toNatClampNeg), .int 1] w3 = some (some (.int r4), w4)) (h9 : ¬ r4 = (-9)) (h10 : ex 161 [.ref 34, .int x1, .int r3] w4 = some (some (.int r5), w5)) (h11 : ¬ r5 = 0) (h12 : ex 161 [.ref 34, .int x1, .int r4] w5 = some (some (.int r6), w6)) (h13 : ¬ r6 = 0) (h14 : vp_in x2 5) (h15 : ex 165 [.int (w6.1 40 x2.toNatClampNeg)] w6 = some (some (.int r7), w7)) (h16 : ex 162 [.ref 34, .int x2, .int r7, .int (w7.1 39 3)] w7 = some (none, w8)) : runs (T_X9_swap ex) (0, [.ref 34, .int x1, .int x2, .null, .null], [], w) = some (some (.int r4), w8) := 
    (runs_stps (q' := (7, [.ref 34, .int x1, .int x2, .null, .null], [.int x1, .ref 34], updI w 34 0 0)) 5 rfl).trans <|
    (runs_callV (rv := some (.int r1)) (w' := w1) rfl rfl rfl rfl h1).trans <|
    (runs_if_f (a := 21) (b := 13) (L := [.ref 34, .int x1, .int x2, .null, .null]) (st := []) (w := w1) rfl h2).trans <|
    (runs_stps (q' := (15, [.ref 34, .int x1, .int x2, .null, .null], [.int x2, .ref 34], w1)) 2 rfl).trans <|
    (runs_callV (rv := some (.int r2)) (w' := w2) rfl rfl rfl rfl h3).trans <|
    (runs_if_f (a := 21) (b := 23) (L := [.ref 34, .int x1, .int x2, .null, .null]) (st := []) (w := w2) rfl h4).trans <|
    (runs_stps (q' := (28, [.ref 34, .int x1, .int x2, .null, .null], [.int x2, .ref 40], w2)) 3 rfl).trans <|
    (runs_ck (q' := (29, [.ref 34, .int x1, .int x2, .null, .null], [.int (w2.1 40 x2.toNatClampNeg)], w2)) rfl h5).trans <|
    (runs_stps (q' := (30, [.ref 34, .int x1, .int x2, .null, .null], [.int 0, .int (w2.1 40 x2.toNatClampNeg)], w2)) 1 rfl).trans <|
    (runs_callS (rv := some (.int r3)) (w' := w3) rfl rfl rfl h6).trans <|
    (runs_stps (q' := (39, [.ref 34, .int x1, .int x2, .int r3, .null], [.int x2, .ref 40], w3)) 4 rfl).trans <|
    (runs_ck (q' := (40, [.ref 34, .int x1, .int x2, .int r3, .null], [.int (w3.1 40 x2.toNatClampNeg)], w3)) rfl h7).trans <|
    (runs_stps (q' := (41, [.ref 34, .int x1, .int x2, .int r3, .null], [.int 1, .int (w3.1 40 x2.toNatClampNeg)], w3)) 1 rfl).trans <|
    (runs_callS (rv := some (.int r4)) (w' := w4) rfl rfl rfl h8).trans <|
    (runs_stps (q' := (50, [.ref 34, .int x1, .int x2, .int r3, .int r4], [.int (-9), .int r4], w4)) 3 rfl).trans <|
    (runs_if_f (a := 72) (b := 53) (L := [.ref 34, .int x1, .int x2, .int r3, .int r4]) (st := []) (w := w4) rfl h9).trans <|
    (runs_stps (q' := (56, [.ref 34, .int x1, .int x2, .int r3, .int r4], [.int r3, .int x1, .ref 34], w4)) 3 rfl).trans <|
    (runs_callV (rv := some (.int r5)) (w' := w5) rfl rfl rfl rfl h10).trans <|
    (runs_if_f (a := 72) (b := 62) (L := [.ref 34, .int x1, .int x2, .int r3, .int r4]) (st := []) (w := w5) rfl h11).trans <|
    (runs_stps (q' := (66, [.ref 34, .int x1, .int x2, .int r3, .int r4], [.int r4, .int x1, .ref 34], w5)) 3 rfl).trans <|
    (runs_callV (rv := some (.int r6)) (w' := w6) rfl rfl rfl rfl h12).trans <|
    (runs_if_f (a := 72) (b := 75) (L := [.ref 34, .int x1, .int x2, .int r3, .int r4]) (st := []) (w := w6) rfl h13).trans <|
    (runs_stps (q' := (82, [.ref 34, .null, .int x2, .null, .int r4], [.int x2, .ref 40, .int x2, .ref 34], w6)) 5 rfl).trans <|
    (runs_ck (q' := (83, [.ref 34, .null, .int x2, .null, .int r4], [.int (w6.1 40 x2.toNatClampNeg), .int x2, .ref 34], w6)) rfl h14).trans <|
    (runs_callS (rv := some (.int r7)) (w' := w7) rfl rfl rfl h15).trans <|
    (runs_stps (q' := (92, [.ref 34, .null, .int x2, .null, .int r4], [.int (w7.1 39 3), .int r7, .int x2, .ref 34], w7)) 4 rfl).trans <|
    (runs_callV (rv := none) (w' := w8) rfl rfl rfl rfl h16).trans <|
    (runs_stps (q' := (97, [.ref 34, .null, .int x2, .null, .int r4], [.int r4], w8)) 1 rfl).trans <|
    runs_ret rfl
theorem p_X9_swap_0FTFFF_R {ex : Ex} {x1 : Int32} {x2 : Int32} {r1 : Int32} {w1 : Wd} {r2 : Int32} {w2 : Wd} {r3 : Int32} {w3 : Wd} {r4 : Int32} {w4 : Wd} {r5 : Int32} {w5 : Wd} {r6 : Int32} {w6 : Wd} {w : Wd} (h1 : ex 153 [.ref 34, .int x1] (updI w 34 0 0) = some (some (.int r1), w1)) (h2 : ¬ r1 = 0) (h3 : ex 152 [.ref 34, .int x2] w1 = some (some (.int r2), w2)) (h4 : ¬ r2 = 0) (h5 : vp_in x2 5) (h6 : ex 158 [.int (w2.1 40 x2.toNatClampNeg), .int 0] w2 = some (some (.int r3), w3)) (h7 : vp_in x2 5) (h8 : ex 158 [.int (w3.1 40 x2.toNatClampNeg), .int 1] w3 = some (some (.int r4), w4)) (h9 : ¬ r4 = (-9)) (h10 : ex 161 [.ref 34, .int x1, .int r3] w4 = some (some (.int r5), w5)) (h11 : ¬ r5 = 0) (h12 : ex 161 [.ref 34, .int x1, .int r4] w5 = some (some (.int r6), w6)) (h13 : r6 = 0) : runs (T_X9_swap ex) (0, [.ref 34, .int x1, .int x2, .null, .null], [], w) = some (some (.int (-2)), w6) := 
    (runs_stps (q' := (7, [.ref 34, .int x1, .int x2, .null, .null], [.int x1, .ref 34], updI w 34 0 0)) 5 rfl).trans <|
    (runs_callV (rv := some (.int r1)) (w' := w1) rfl rfl rfl rfl h1).trans <|
    (runs_if_f (a := 21) (b := 13) (L := [.ref 34, .int x1, .int x2, .null, .null]) (st := []) (w := w1) rfl h2).trans <|
    (runs_stps (q' := (15, [.ref 34, .int x1, .int x2, .null, .null], [.int x2, .ref 34], w1)) 2 rfl).trans <|
    (runs_callV (rv := some (.int r2)) (w' := w2) rfl rfl rfl rfl h3).trans <|
    (runs_if_f (a := 21) (b := 23) (L := [.ref 34, .int x1, .int x2, .null, .null]) (st := []) (w := w2) rfl h4).trans <|
    (runs_stps (q' := (28, [.ref 34, .int x1, .int x2, .null, .null], [.int x2, .ref 40], w2)) 3 rfl).trans <|
    (runs_ck (q' := (29, [.ref 34, .int x1, .int x2, .null, .null], [.int (w2.1 40 x2.toNatClampNeg)], w2)) rfl h5).trans <|
    (runs_stps (q' := (30, [.ref 34, .int x1, .int x2, .null, .null], [.int 0, .int (w2.1 40 x2.toNatClampNeg)], w2)) 1 rfl).trans <|
    (runs_callS (rv := some (.int r3)) (w' := w3) rfl rfl rfl h6).trans <|
    (runs_stps (q' := (39, [.ref 34, .int x1, .int x2, .int r3, .null], [.int x2, .ref 40], w3)) 4 rfl).trans <|
    (runs_ck (q' := (40, [.ref 34, .int x1, .int x2, .int r3, .null], [.int (w3.1 40 x2.toNatClampNeg)], w3)) rfl h7).trans <|
    (runs_stps (q' := (41, [.ref 34, .int x1, .int x2, .int r3, .null], [.int 1, .int (w3.1 40 x2.toNatClampNeg)], w3)) 1 rfl).trans <|
    (runs_callS (rv := some (.int r4)) (w' := w4) rfl rfl rfl h8).trans <|
    (runs_stps (q' := (50, [.ref 34, .int x1, .int x2, .int r3, .int r4], [.int (-9), .int r4], w4)) 3 rfl).trans <|
    (runs_if_f (a := 72) (b := 53) (L := [.ref 34, .int x1, .int x2, .int r3, .int r4]) (st := []) (w := w4) rfl h9).trans <|
    (runs_stps (q' := (56, [.ref 34, .int x1, .int x2, .int r3, .int r4], [.int r3, .int x1, .ref 34], w4)) 3 rfl).trans <|
    (runs_callV (rv := some (.int r5)) (w' := w5) rfl rfl rfl rfl h10).trans <|
    (runs_if_f (a := 72) (b := 62) (L := [.ref 34, .int x1, .int x2, .int r3, .int r4]) (st := []) (w := w5) rfl h11).trans <|
    (runs_stps (q' := (66, [.ref 34, .int x1, .int x2, .int r3, .int r4], [.int r4, .int x1, .ref 34], w5)) 3 rfl).trans <|
    (runs_callV (rv := some (.int r6)) (w' := w6) rfl rfl rfl rfl h12).trans <|
    (runs_if_t (a := 72) (b := 75) (L := [.ref 34, .int x1, .int x2, .int r3, .int r4]) (st := []) (w := w6) rfl h13).trans <|
    (runs_stps (q' := (74, [.null, .null, .null, .null, .null], [.int (-2)], w6)) 1 rfl).trans <|
    runs_ret rfl
theorem p_X9_swap_0FF_R {ex : Ex} {x1 : Int32} {x2 : Int32} {r1 : Int32} {w1 : Wd} {r2 : Int32} {w2 : Wd} {w : Wd} (h1 : ex 153 [.ref 34, .int x1] (updI w 34 0 0) = some (some (.int r1), w1)) (h2 : ¬ r1 = 0) (h3 : ex 152 [.ref 34, .int x2] w1 = some (some (.int r2), w2)) (h4 : r2 = 0) : runs (T_X9_swap ex) (0, [.ref 34, .int x1, .int x2, .null, .null], [], w) = some (some (.int (-1)), w2) := 
    (runs_stps (q' := (7, [.ref 34, .int x1, .int x2, .null, .null], [.int x1, .ref 34], updI w 34 0 0)) 5 rfl).trans <|
    (runs_callV (rv := some (.int r1)) (w' := w1) rfl rfl rfl rfl h1).trans <|
    (runs_if_f (a := 21) (b := 13) (L := [.ref 34, .int x1, .int x2, .null, .null]) (st := []) (w := w1) rfl h2).trans <|
    (runs_stps (q' := (15, [.ref 34, .int x1, .int x2, .null, .null], [.int x2, .ref 34], w1)) 2 rfl).trans <|
    (runs_callV (rv := some (.int r2)) (w' := w2) rfl rfl rfl rfl h3).trans <|
    (runs_if_t (a := 21) (b := 23) (L := [.ref 34, .int x1, .int x2, .null, .null]) (st := []) (w := w2) rfl h4).trans <|
    (runs_stps (q' := (22, [.null, .null, .null, .null, .null], [.int (-1)], w2)) 1 rfl).trans <|
    runs_ret rfl
theorem p_X9_copy_0T_R {ex : Ex} {x1 : Int32} {x2 : Int32} {x3 : Int32} {r1 : Int32} {w1 : Wd} {w : Wd} (h1 : ex 153 [.ref 34, .int x1] (updI w 34 0 0) = some (some (.int r1), w1)) (h2 : r1 = 0) : runs (T_X9_copy ex) (0, [.ref 34, .int x1, .int x2, .int x3, .null], [], w) = some (some (.int (-1)), w1) := 
    (runs_stps (q' := (7, [.ref 34, .int x1, .int x2, .int x3, .null], [.int x1, .ref 34], updI w 34 0 0)) 5 rfl).trans <|
    (runs_callV (rv := some (.int r1)) (w' := w1) rfl rfl rfl rfl h1).trans <|
    (runs_if_t (a := 34) (b := 13) (L := [.ref 34, .int x1, .int x2, .int x3, .null]) (st := []) (w := w1) rfl h2).trans <|
    (runs_stps (q' := (35, [.null, .null, .null, .null, .null], [.int (-1)], w1)) 1 rfl).trans <|
    runs_ret rfl
theorem p_X9_copy_0FT_R {ex : Ex} {x1 : Int32} {x2 : Int32} {x3 : Int32} {r1 : Int32} {w1 : Wd} {r2 : Int32} {w2 : Wd} {w : Wd} (h1 : ex 153 [.ref 34, .int x1] (updI w 34 0 0) = some (some (.int r1), w1)) (h2 : ¬ r1 = 0) (h3 : ex 152 [.ref 34, .int x2] w1 = some (some (.int r2), w2)) (h4 : r2 = 0) : runs (T_X9_copy ex) (0, [.ref 34, .int x1, .int x2, .int x3, .null], [], w) = some (some (.int (-1)), w2) := 
    (runs_stps (q' := (7, [.ref 34, .int x1, .int x2, .int x3, .null], [.int x1, .ref 34], updI w 34 0 0)) 5 rfl).trans <|
    (runs_callV (rv := some (.int r1)) (w' := w1) rfl rfl rfl rfl h1).trans <|
    (runs_if_f (a := 34) (b := 13) (L := [.ref 34, .int x1, .int x2, .int x3, .null]) (st := []) (w := w1) rfl h2).trans <|
    (runs_stps (q' := (15, [.ref 34, .int x1, .int x2, .int x3, .null], [.int x2, .ref 34], w1)) 2 rfl).trans <|
    (runs_callV (rv := some (.int r2)) (w' := w2) rfl rfl rfl rfl h3).trans <|
    (runs_if_t (a := 34) (b := 21) (L := [.ref 34, .int x1, .int x2, .int x3, .null]) (st := []) (w := w2) rfl h4).trans <|
    (runs_stps (q' := (35, [.null, .null, .null, .null, .null], [.int (-1)], w2)) 1 rfl).trans <|
    runs_ret rfl
theorem p_X9_copy_0FFT_R {ex : Ex} {x1 : Int32} {x2 : Int32} {x3 : Int32} {r1 : Int32} {w1 : Wd} {r2 : Int32} {w2 : Wd} {r3 : Int32} {w3 : Wd} {w : Wd} (h1 : ex 153 [.ref 34, .int x1] (updI w 34 0 0) = some (some (.int r1), w1)) (h2 : ¬ r1 = 0) (h3 : ex 152 [.ref 34, .int x2] w1 = some (some (.int r2), w2)) (h4 : ¬ r2 = 0) (h5 : ex 152 [.ref 34, .int x3] w2 = some (some (.int r3), w3)) (h6 : r3 = 0) : runs (T_X9_copy ex) (0, [.ref 34, .int x1, .int x2, .int x3, .null], [], w) = some (some (.int (-1)), w3) := 
    (runs_stps (q' := (7, [.ref 34, .int x1, .int x2, .int x3, .null], [.int x1, .ref 34], updI w 34 0 0)) 5 rfl).trans <|
    (runs_callV (rv := some (.int r1)) (w' := w1) rfl rfl rfl rfl h1).trans <|
    (runs_if_f (a := 34) (b := 13) (L := [.ref 34, .int x1, .int x2, .int x3, .null]) (st := []) (w := w1) rfl h2).trans <|
    (runs_stps (q' := (15, [.ref 34, .int x1, .int x2, .int x3, .null], [.int x2, .ref 34], w1)) 2 rfl).trans <|
    (runs_callV (rv := some (.int r2)) (w' := w2) rfl rfl rfl rfl h3).trans <|
    (runs_if_f (a := 34) (b := 21) (L := [.ref 34, .int x1, .int x2, .int x3, .null]) (st := []) (w := w2) rfl h4).trans <|
    (runs_stps (q' := (23, [.ref 34, .int x1, .int x2, .int x3, .null], [.int x3, .ref 34], w2)) 2 rfl).trans <|
    (runs_callV (rv := some (.int r3)) (w' := w3) rfl rfl rfl rfl h5).trans <|
    (runs_if_t (a := 34) (b := 29) (L := [.ref 34, .int x1, .int x2, .int x3, .null]) (st := []) (w := w3) rfl h6).trans <|
    (runs_stps (q' := (35, [.null, .null, .null, .null, .null], [.int (-1)], w3)) 1 rfl).trans <|
    runs_ret rfl
theorem p_X9_copy_0FFFTT_R {ex : Ex} {x1 : Int32} {x2 : Int32} {x3 : Int32} {r1 : Int32} {w1 : Wd} {r2 : Int32} {w2 : Wd} {r3 : Int32} {w3 : Wd} {r4 : Int32} {w4 : Wd} {w : Wd} (h1 : ex 153 [.ref 34, .int x1] (updI w 34 0 0) = some (some (.int r1), w1)) (h2 : ¬ r1 = 0) (h3 : ex 152 [.ref 34, .int x2] w1 = some (some (.int r2), w2)) (h4 : ¬ r2 = 0) (h5 : ex 152 [.ref 34, .int x3] w2 = some (some (.int r3), w3)) (h6 : ¬ r3 = 0) (h7 : ¬ x2 = x3) (h8 : vp_in x2 5) (h9 : ex 158 [.int (w3.1 40 x2.toNatClampNeg), .int 0] w3 = some (some (.int r4), w4)) (h10 : r4 = (-9)) : runs (T_X9_copy ex) (0, [.ref 34, .int x1, .int x2, .int x3, .null], [], w) = some (some (.int (-2)), w4) := 
    (runs_stps (q' := (7, [.ref 34, .int x1, .int x2, .int x3, .null], [.int x1, .ref 34], updI w 34 0 0)) 5 rfl).trans <|
    (runs_callV (rv := some (.int r1)) (w' := w1) rfl rfl rfl rfl h1).trans <|
    (runs_if_f (a := 34) (b := 13) (L := [.ref 34, .int x1, .int x2, .int x3, .null]) (st := []) (w := w1) rfl h2).trans <|
    (runs_stps (q' := (15, [.ref 34, .int x1, .int x2, .int x3, .null], [.int x2, .ref 34], w1)) 2 rfl).trans <|
    (runs_callV (rv := some (.int r2)) (w' := w2) rfl rfl rfl rfl h3).trans <|
    (runs_if_f (a := 34) (b := 21) (L := [.ref 34, .int x1, .int x2, .int x3, .null]) (st := []) (w := w2) rfl h4).trans <|
    (runs_stps (q' := (23, [.ref 34, .int x1, .int x2, .int x3, .null], [.int x3, .ref 34], w2)) 2 rfl).trans <|
    (runs_callV (rv := some (.int r3)) (w' := w3) rfl rfl rfl rfl h5).trans <|
    (runs_if_f (a := 34) (b := 29) (L := [.ref 34, .int x1, .int x2, .int x3, .null]) (st := []) (w := w3) rfl h6).trans <|
    (runs_stps (q' := (31, [.ref 34, .int x1, .int x2, .int x3, .null], [.int x3, .int x2], w3)) 2 rfl).trans <|
    (runs_if_f (a := 34) (b := 36) (L := [.ref 34, .int x1, .int x2, .int x3, .null]) (st := []) (w := w3) rfl h7).trans <|
    (runs_stps (q' := (41, [.ref 34, .int x1, .int x2, .int x3, .null], [.int x2, .ref 40], w3)) 3 rfl).trans <|
    (runs_ck (q' := (42, [.ref 34, .int x1, .int x2, .int x3, .null], [.int (w3.1 40 x2.toNatClampNeg)], w3)) rfl h8).trans <|
    (runs_stps (q' := (43, [.ref 34, .int x1, .int x2, .int x3, .null], [.int 0, .int (w3.1 40 x2.toNatClampNeg)], w3)) 1 rfl).trans <|
    (runs_callS (rv := some (.int r4)) (w' := w4) rfl rfl rfl h9).trans <|
    (runs_stps (q' := (52, [.ref 34, .int x1, .int x2, .int x3, .int r4], [.int (-9), .int r4], w4)) 3 rfl).trans <|
    (runs_if_t (a := 65) (b := 55) (L := [.ref 34, .int x1, .int x2, .int x3, .int r4]) (st := []) (w := w4) rfl h10).trans <|
    (runs_stps (q' := (67, [.null, .null, .null, .null, .null], [.int (-2)], w4)) 1 rfl).trans <|
    runs_ret rfl
theorem p_X9_copy_0FFFTFTT_R {ex : Ex} {x1 : Int32} {x2 : Int32} {x3 : Int32} {r1 : Int32} {w1 : Wd} {r2 : Int32} {w2 : Wd} {r3 : Int32} {w3 : Wd} {r4 : Int32} {w4 : Wd} {r5 : Int32} {w5 : Wd} {r6 : Int32} {w6 : Wd} {w7 : Wd} {w : Wd} (h1 : ex 153 [.ref 34, .int x1] (updI w 34 0 0) = some (some (.int r1), w1)) (h2 : ¬ r1 = 0) (h3 : ex 152 [.ref 34, .int x2] w1 = some (some (.int r2), w2)) (h4 : ¬ r2 = 0) (h5 : ex 152 [.ref 34, .int x3] w2 = some (some (.int r3), w3)) (h6 : ¬ r3 = 0) (h7 : ¬ x2 = x3) (h8 : vp_in x2 5) (h9 : ex 158 [.int (w3.1 40 x2.toNatClampNeg), .int 0] w3 = some (some (.int r4), w4)) (h10 : ¬ r4 = (-9)) (h11 : ex 161 [.ref 34, .int x1, .int r4] w4 = some (some (.int r5), w5)) (h12 : ¬ r5 = 0) (h13 : vp_in x3 5) (h14 : ex 155 [.int (w5.1 40 x3.toNatClampNeg)] w5 = some (some (.int r6), w6)) (h15 : ¬ r6 = 5) (h16 : vp_in x3 5) (h17 : ex 162 [.ref 34, .int x3, .int (((6 * (w6.1 40 x3.toNatClampNeg)) + r4) + 1), .int (w6.1 39 4)] w6 = some (none, w7)) : runs (T_X9_copy ex) (0, [.ref 34, .int x1, .int x2, .int x3, .null], [], w) = some (some (.int r4), w7) := 
    (runs_stps (q' := (7, [.ref 34, .int x1, .int x2, .int x3, .null], [.int x1, .ref 34], updI w 34 0 0)) 5 rfl).trans <|
    (runs_callV (rv := some (.int r1)) (w' := w1) rfl rfl rfl rfl h1).trans <|
    (runs_if_f (a := 34) (b := 13) (L := [.ref 34, .int x1, .int x2, .int x3, .null]) (st := []) (w := w1) rfl h2).trans <|
    (runs_stps (q' := (15, [.ref 34, .int x1, .int x2, .int x3, .null], [.int x2, .ref 34], w1)) 2 rfl).trans <|
    (runs_callV (rv := some (.int r2)) (w' := w2) rfl rfl rfl rfl h3).trans <|
    (runs_if_f (a := 34) (b := 21) (L := [.ref 34, .int x1, .int x2, .int x3, .null]) (st := []) (w := w2) rfl h4).trans <|
    (runs_stps (q' := (23, [.ref 34, .int x1, .int x2, .int x3, .null], [.int x3, .ref 34], w2)) 2 rfl).trans <|
    (runs_callV (rv := some (.int r3)) (w' := w3) rfl rfl rfl rfl h5).trans <|
    (runs_if_f (a := 34) (b := 29) (L := [.ref 34, .int x1, .int x2, .int x3, .null]) (st := []) (w := w3) rfl h6).trans <|
    (runs_stps (q' := (31, [.ref 34, .int x1, .int x2, .int x3, .null], [.int x3, .int x2], w3)) 2 rfl).trans <|
    (runs_if_f (a := 34) (b := 36) (L := [.ref 34, .int x1, .int x2, .int x3, .null]) (st := []) (w := w3) rfl h7).trans <|
    (runs_stps (q' := (41, [.ref 34, .int x1, .int x2, .int x3, .null], [.int x2, .ref 40], w3)) 3 rfl).trans <|
    (runs_ck (q' := (42, [.ref 34, .int x1, .int x2, .int x3, .null], [.int (w3.1 40 x2.toNatClampNeg)], w3)) rfl h8).trans <|
    (runs_stps (q' := (43, [.ref 34, .int x1, .int x2, .int x3, .null], [.int 0, .int (w3.1 40 x2.toNatClampNeg)], w3)) 1 rfl).trans <|
    (runs_callS (rv := some (.int r4)) (w' := w4) rfl rfl rfl h9).trans <|
    (runs_stps (q' := (52, [.ref 34, .int x1, .int x2, .int x3, .int r4], [.int (-9), .int r4], w4)) 3 rfl).trans <|
    (runs_if_f (a := 65) (b := 55) (L := [.ref 34, .int x1, .int x2, .int x3, .int r4]) (st := []) (w := w4) rfl h10).trans <|
    (runs_stps (q' := (59, [.ref 34, .int x1, .int x2, .int x3, .int r4], [.int r4, .int x1, .ref 34], w4)) 3 rfl).trans <|
    (runs_callV (rv := some (.int r5)) (w' := w5) rfl rfl rfl rfl h11).trans <|
    (runs_if_f (a := 65) (b := 68) (L := [.ref 34, .int x1, .int x2, .int x3, .int r4]) (st := []) (w := w5) rfl h12).trans <|
    (runs_stps (q' := (73, [.ref 34, .null, .null, .int x3, .int r4], [.int x3, .ref 40], w5)) 3 rfl).trans <|
    (runs_ck (q' := (74, [.ref 34, .null, .null, .int x3, .int r4], [.int (w5.1 40 x3.toNatClampNeg)], w5)) rfl h13).trans <|
    (runs_callS (rv := some (.int r6)) (w' := w6) rfl rfl rfl h14).trans <|
    (runs_stps (q' := (78, [.ref 34, .null, .null, .int x3, .int r4], [.int 5, .int r6], w6)) 1 rfl).trans <|
    (runs_if_f (a := 81) (b := 84) (L := [.ref 34, .null, .null, .int x3, .int r4]) (st := []) (w := w6) rfl h15).trans <|
    (runs_stps (q' := (93, [.ref 34, .null, .null, .int x3, .int r4], [.int x3, .ref 40, .int 6, .int x3, .ref 34], w6)) 6 rfl).trans <|
    (runs_ck (q' := (94, [.ref 34, .null, .null, .int x3, .int r4], [.int (w6.1 40 x3.toNatClampNeg), .int 6, .int x3, .ref 34], w6)) rfl h16).trans <|
    (runs_stps (q' := (106, [.ref 34, .null, .null, .int x3, .int r4], [.int (w6.1 39 4), .int (((6 * (w6.1 40 x3.toNatClampNeg)) + r4) + 1), .int x3, .ref 34], w6)) 9 rfl).trans <|
    (runs_callV (rv := none) (w' := w7) rfl rfl rfl rfl h17).trans <|
    (runs_stps (q' := (111, [.ref 34, .null, .null, .int x3, .int r4], [.int r4], w7)) 1 rfl).trans <|
    runs_ret rfl
theorem p_X9_copy_0FFFTFTF_R {ex : Ex} {x1 : Int32} {x2 : Int32} {x3 : Int32} {r1 : Int32} {w1 : Wd} {r2 : Int32} {w2 : Wd} {r3 : Int32} {w3 : Wd} {r4 : Int32} {w4 : Wd} {r5 : Int32} {w5 : Wd} {r6 : Int32} {w6 : Wd} {w : Wd} (h1 : ex 153 [.ref 34, .int x1] (updI w 34 0 0) = some (some (.int r1), w1)) (h2 : ¬ r1 = 0) (h3 : ex 152 [.ref 34, .int x2] w1 = some (some (.int r2), w2)) (h4 : ¬ r2 = 0) (h5 : ex 152 [.ref 34, .int x3] w2 = some (some (.int r3), w3)) (h6 : ¬ r3 = 0) (h7 : ¬ x2 = x3) (h8 : vp_in x2 5) (h9 : ex 158 [.int (w3.1 40 x2.toNatClampNeg), .int 0] w3 = some (some (.int r4), w4)) (h10 : ¬ r4 = (-9)) (h11 : ex 161 [.ref 34, .int x1, .int r4] w4 = some (some (.int r5), w5)) (h12 : ¬ r5 = 0) (h13 : vp_in x3 5) (h14 : ex 155 [.int (w5.1 40 x3.toNatClampNeg)] w5 = some (some (.int r6), w6)) (h15 : r6 = 5) : runs (T_X9_copy ex) (0, [.ref 34, .int x1, .int x2, .int x3, .null], [], w) = some (some (.int (-3)), w6) := 
    (runs_stps (q' := (7, [.ref 34, .int x1, .int x2, .int x3, .null], [.int x1, .ref 34], updI w 34 0 0)) 5 rfl).trans <|
    (runs_callV (rv := some (.int r1)) (w' := w1) rfl rfl rfl rfl h1).trans <|
    (runs_if_f (a := 34) (b := 13) (L := [.ref 34, .int x1, .int x2, .int x3, .null]) (st := []) (w := w1) rfl h2).trans <|
    (runs_stps (q' := (15, [.ref 34, .int x1, .int x2, .int x3, .null], [.int x2, .ref 34], w1)) 2 rfl).trans <|
    (runs_callV (rv := some (.int r2)) (w' := w2) rfl rfl rfl rfl h3).trans <|
    (runs_if_f (a := 34) (b := 21) (L := [.ref 34, .int x1, .int x2, .int x3, .null]) (st := []) (w := w2) rfl h4).trans <|
    (runs_stps (q' := (23, [.ref 34, .int x1, .int x2, .int x3, .null], [.int x3, .ref 34], w2)) 2 rfl).trans <|
    (runs_callV (rv := some (.int r3)) (w' := w3) rfl rfl rfl rfl h5).trans <|
    (runs_if_f (a := 34) (b := 29) (L := [.ref 34, .int x1, .int x2, .int x3, .null]) (st := []) (w := w3) rfl h6).trans <|
    (runs_stps (q' := (31, [.ref 34, .int x1, .int x2, .int x3, .null], [.int x3, .int x2], w3)) 2 rfl).trans <|
    (runs_if_f (a := 34) (b := 36) (L := [.ref 34, .int x1, .int x2, .int x3, .null]) (st := []) (w := w3) rfl h7).trans <|
    (runs_stps (q' := (41, [.ref 34, .int x1, .int x2, .int x3, .null], [.int x2, .ref 40], w3)) 3 rfl).trans <|
    (runs_ck (q' := (42, [.ref 34, .int x1, .int x2, .int x3, .null], [.int (w3.1 40 x2.toNatClampNeg)], w3)) rfl h8).trans <|
    (runs_stps (q' := (43, [.ref 34, .int x1, .int x2, .int x3, .null], [.int 0, .int (w3.1 40 x2.toNatClampNeg)], w3)) 1 rfl).trans <|
    (runs_callS (rv := some (.int r4)) (w' := w4) rfl rfl rfl h9).trans <|
    (runs_stps (q' := (52, [.ref 34, .int x1, .int x2, .int x3, .int r4], [.int (-9), .int r4], w4)) 3 rfl).trans <|
    (runs_if_f (a := 65) (b := 55) (L := [.ref 34, .int x1, .int x2, .int x3, .int r4]) (st := []) (w := w4) rfl h10).trans <|
    (runs_stps (q' := (59, [.ref 34, .int x1, .int x2, .int x3, .int r4], [.int r4, .int x1, .ref 34], w4)) 3 rfl).trans <|
    (runs_callV (rv := some (.int r5)) (w' := w5) rfl rfl rfl rfl h11).trans <|
    (runs_if_f (a := 65) (b := 68) (L := [.ref 34, .int x1, .int x2, .int x3, .int r4]) (st := []) (w := w5) rfl h12).trans <|
    (runs_stps (q' := (73, [.ref 34, .null, .null, .int x3, .int r4], [.int x3, .ref 40], w5)) 3 rfl).trans <|
    (runs_ck (q' := (74, [.ref 34, .null, .null, .int x3, .int r4], [.int (w5.1 40 x3.toNatClampNeg)], w5)) rfl h13).trans <|
    (runs_callS (rv := some (.int r6)) (w' := w6) rfl rfl rfl h14).trans <|
    (runs_stps (q' := (78, [.ref 34, .null, .null, .int x3, .int r4], [.int 5, .int r6], w6)) 1 rfl).trans <|
    (runs_if_t (a := 81) (b := 84) (L := [.ref 34, .null, .null, .int x3, .int r4]) (st := []) (w := w6) rfl h15).trans <|
    (runs_stps (q' := (83, [.ref 34, .null, .null, .int x3, .int r4], [.int (-3)], w6)) 1 rfl).trans <|
    runs_ret rfl
theorem p_X9_copy_0FFFTFF_R {ex : Ex} {x1 : Int32} {x2 : Int32} {x3 : Int32} {r1 : Int32} {w1 : Wd} {r2 : Int32} {w2 : Wd} {r3 : Int32} {w3 : Wd} {r4 : Int32} {w4 : Wd} {r5 : Int32} {w5 : Wd} {w : Wd} (h1 : ex 153 [.ref 34, .int x1] (updI w 34 0 0) = some (some (.int r1), w1)) (h2 : ¬ r1 = 0) (h3 : ex 152 [.ref 34, .int x2] w1 = some (some (.int r2), w2)) (h4 : ¬ r2 = 0) (h5 : ex 152 [.ref 34, .int x3] w2 = some (some (.int r3), w3)) (h6 : ¬ r3 = 0) (h7 : ¬ x2 = x3) (h8 : vp_in x2 5) (h9 : ex 158 [.int (w3.1 40 x2.toNatClampNeg), .int 0] w3 = some (some (.int r4), w4)) (h10 : ¬ r4 = (-9)) (h11 : ex 161 [.ref 34, .int x1, .int r4] w4 = some (some (.int r5), w5)) (h12 : r5 = 0) : runs (T_X9_copy ex) (0, [.ref 34, .int x1, .int x2, .int x3, .null], [], w) = some (some (.int (-2)), w5) := 
    (runs_stps (q' := (7, [.ref 34, .int x1, .int x2, .int x3, .null], [.int x1, .ref 34], updI w 34 0 0)) 5 rfl).trans <|
    (runs_callV (rv := some (.int r1)) (w' := w1) rfl rfl rfl rfl h1).trans <|
    (runs_if_f (a := 34) (b := 13) (L := [.ref 34, .int x1, .int x2, .int x3, .null]) (st := []) (w := w1) rfl h2).trans <|
    (runs_stps (q' := (15, [.ref 34, .int x1, .int x2, .int x3, .null], [.int x2, .ref 34], w1)) 2 rfl).trans <|
    (runs_callV (rv := some (.int r2)) (w' := w2) rfl rfl rfl rfl h3).trans <|
    (runs_if_f (a := 34) (b := 21) (L := [.ref 34, .int x1, .int x2, .int x3, .null]) (st := []) (w := w2) rfl h4).trans <|
    (runs_stps (q' := (23, [.ref 34, .int x1, .int x2, .int x3, .null], [.int x3, .ref 34], w2)) 2 rfl).trans <|
    (runs_callV (rv := some (.int r3)) (w' := w3) rfl rfl rfl rfl h5).trans <|
    (runs_if_f (a := 34) (b := 29) (L := [.ref 34, .int x1, .int x2, .int x3, .null]) (st := []) (w := w3) rfl h6).trans <|
    (runs_stps (q' := (31, [.ref 34, .int x1, .int x2, .int x3, .null], [.int x3, .int x2], w3)) 2 rfl).trans <|
    (runs_if_f (a := 34) (b := 36) (L := [.ref 34, .int x1, .int x2, .int x3, .null]) (st := []) (w := w3) rfl h7).trans <|
    (runs_stps (q' := (41, [.ref 34, .int x1, .int x2, .int x3, .null], [.int x2, .ref 40], w3)) 3 rfl).trans <|
    (runs_ck (q' := (42, [.ref 34, .int x1, .int x2, .int x3, .null], [.int (w3.1 40 x2.toNatClampNeg)], w3)) rfl h8).trans <|
    (runs_stps (q' := (43, [.ref 34, .int x1, .int x2, .int x3, .null], [.int 0, .int (w3.1 40 x2.toNatClampNeg)], w3)) 1 rfl).trans <|
    (runs_callS (rv := some (.int r4)) (w' := w4) rfl rfl rfl h9).trans <|
    (runs_stps (q' := (52, [.ref 34, .int x1, .int x2, .int x3, .int r4], [.int (-9), .int r4], w4)) 3 rfl).trans <|
    (runs_if_f (a := 65) (b := 55) (L := [.ref 34, .int x1, .int x2, .int x3, .int r4]) (st := []) (w := w4) rfl h10).trans <|
    (runs_stps (q' := (59, [.ref 34, .int x1, .int x2, .int x3, .int r4], [.int r4, .int x1, .ref 34], w4)) 3 rfl).trans <|
    (runs_callV (rv := some (.int r5)) (w' := w5) rfl rfl rfl rfl h11).trans <|
    (runs_if_t (a := 65) (b := 68) (L := [.ref 34, .int x1, .int x2, .int x3, .int r4]) (st := []) (w := w5) rfl h12).trans <|
    (runs_stps (q' := (67, [.null, .null, .null, .null, .null], [.int (-2)], w5)) 1 rfl).trans <|
    runs_ret rfl
theorem p_X9_copy_0FFFF_R {ex : Ex} {x1 : Int32} {x2 : Int32} {x3 : Int32} {r1 : Int32} {w1 : Wd} {r2 : Int32} {w2 : Wd} {r3 : Int32} {w3 : Wd} {w : Wd} (h1 : ex 153 [.ref 34, .int x1] (updI w 34 0 0) = some (some (.int r1), w1)) (h2 : ¬ r1 = 0) (h3 : ex 152 [.ref 34, .int x2] w1 = some (some (.int r2), w2)) (h4 : ¬ r2 = 0) (h5 : ex 152 [.ref 34, .int x3] w2 = some (some (.int r3), w3)) (h6 : ¬ r3 = 0) (h7 : x2 = x3) : runs (T_X9_copy ex) (0, [.ref 34, .int x1, .int x2, .int x3, .null], [], w) = some (some (.int (-1)), w3) := 
    (runs_stps (q' := (7, [.ref 34, .int x1, .int x2, .int x3, .null], [.int x1, .ref 34], updI w 34 0 0)) 5 rfl).trans <|
    (runs_callV (rv := some (.int r1)) (w' := w1) rfl rfl rfl rfl h1).trans <|
    (runs_if_f (a := 34) (b := 13) (L := [.ref 34, .int x1, .int x2, .int x3, .null]) (st := []) (w := w1) rfl h2).trans <|
    (runs_stps (q' := (15, [.ref 34, .int x1, .int x2, .int x3, .null], [.int x2, .ref 34], w1)) 2 rfl).trans <|
    (runs_callV (rv := some (.int r2)) (w' := w2) rfl rfl rfl rfl h3).trans <|
    (runs_if_f (a := 34) (b := 21) (L := [.ref 34, .int x1, .int x2, .int x3, .null]) (st := []) (w := w2) rfl h4).trans <|
    (runs_stps (q' := (23, [.ref 34, .int x1, .int x2, .int x3, .null], [.int x3, .ref 34], w2)) 2 rfl).trans <|
    (runs_callV (rv := some (.int r3)) (w' := w3) rfl rfl rfl rfl h5).trans <|
    (runs_if_f (a := 34) (b := 29) (L := [.ref 34, .int x1, .int x2, .int x3, .null]) (st := []) (w := w3) rfl h6).trans <|
    (runs_stps (q' := (31, [.ref 34, .int x1, .int x2, .int x3, .null], [.int x3, .int x2], w3)) 2 rfl).trans <|
    (runs_if_t (a := 34) (b := 36) (L := [.ref 34, .int x1, .int x2, .int x3, .null]) (st := []) (w := w3) rfl h7).trans <|
    (runs_stps (q' := (35, [.null, .null, .null, .null, .null], [.int (-1)], w3)) 1 rfl).trans <|
    runs_ret rfl
theorem p_X9_undo_0T_R {ex : Ex} {w : Wd} (h1 : ¬ (w.1 34 23) = 0) (h2 : vp_in (3 * ((w.1 34 23) - 1)) 36) (h3 : vp_in ((3 * ((w.1 34 23) - 1)) + 1) 36) (h4 : vp_in (w.1 43 ((3 * ((w.1 34 23) - 1)).toNatClampNeg)) 5) (h5 : vp_in ((3 * ((w.1 34 23) - 1)) + 2) 36) : runs (T_X9_undo ex) (0, [.ref 34, .null], [], w) = some (some (.int ((w.1 34 23) - 1)), updI (updI (updI (updI w 34 0 0) 34 23 ((w.1 34 23) - 1)) 40 ((w.1 43 ((3 * ((w.1 34 23) - 1)).toNatClampNeg)).toNatClampNeg) (w.1 43 (((3 * ((w.1 34 23) - 1)) + 1).toNatClampNeg))) 40 4 (w.1 43 (((3 * ((w.1 34 23) - 1)) + 2).toNatClampNeg))) := 
    (runs_stps (q' := (9, [.ref 34, .null], [.int (w.1 34 23)], updI w 34 0 0)) 5 rfl).trans <|
    (runs_if_f (a := 12) (b := 15) (L := [.ref 34, .null]) (st := []) (w := updI w 34 0 0) rfl h1).trans <|
    (runs_stps (q' := (41, [.ref 34, .int (3 * ((w.1 34 23) - 1))], [.int (3 * ((w.1 34 23) - 1)), .ref 43, .ref 40], updI (updI w 34 0 0) 34 23 ((w.1 34 23) - 1))) 16 rfl).trans <|
    (runs_ck (q' := (42, [.ref 34, .int (3 * ((w.1 34 23) - 1))], [.int (w.1 43 ((3 * ((w.1 34 23) - 1)).toNatClampNeg)), .ref 40], updI (updI w 34 0 0) 34 23 ((w.1 34 23) - 1))) rfl h2).trans <|
    (runs_stps (q' := (49, [.ref 34, .int (3 * ((w.1 34 23) - 1))], [.int ((3 * ((w.1 34 23) - 1)) + 1), .ref 43, .int (w.1 43 ((3 * ((w.1 34 23) - 1)).toNatClampNeg)), .ref 40], updI (updI w 34 0 0) 34 23 ((w.1 34 23) - 1))) 5 rfl).trans <|
    (runs_ck (q' := (50, [.ref 34, .int (3 * ((w.1 34 23) - 1))], [.int (w.1 43 (((3 * ((w.1 34 23) - 1)) + 1).toNatClampNeg)), .int (w.1 43 ((3 * ((w.1 34 23) - 1)).toNatClampNeg)), .ref 40], updI (updI w 34 0 0) 34 23 ((w.1 34 23) - 1))) rfl h3).trans <|
    (runs_ck (q' := (51, [.ref 34, .int (3 * ((w.1 34 23) - 1))], [], updI (updI (updI w 34 0 0) 34 23 ((w.1 34 23) - 1)) 40 ((w.1 43 ((3 * ((w.1 34 23) - 1)).toNatClampNeg)).toNatClampNeg) (w.1 43 (((3 * ((w.1 34 23) - 1)) + 1).toNatClampNeg)))) rfl h4).trans <|
    (runs_stps (q' := (63, [.ref 34, .int (3 * ((w.1 34 23) - 1))], [.int ((3 * ((w.1 34 23) - 1)) + 2), .ref 43, .int 4, .ref 40], updI (updI (updI w 34 0 0) 34 23 ((w.1 34 23) - 1)) 40 ((w.1 43 ((3 * ((w.1 34 23) - 1)).toNatClampNeg)).toNatClampNeg) (w.1 43 (((3 * ((w.1 34 23) - 1)) + 1).toNatClampNeg)))) 8 rfl).trans <|
    (runs_ck (q' := (64, [.ref 34, .int (3 * ((w.1 34 23) - 1))], [.int (w.1 43 (((3 * ((w.1 34 23) - 1)) + 2).toNatClampNeg)), .int 4, .ref 40], updI (updI (updI w 34 0 0) 34 23 ((w.1 34 23) - 1)) 40 ((w.1 43 ((3 * ((w.1 34 23) - 1)).toNatClampNeg)).toNatClampNeg) (w.1 43 (((3 * ((w.1 34 23) - 1)) + 1).toNatClampNeg)))) rfl h5).trans <|
    (runs_stps (q' := (69, [.ref 34, .int (3 * ((w.1 34 23) - 1))], [.int ((w.1 34 23) - 1)], updI (updI (updI (updI w 34 0 0) 34 23 ((w.1 34 23) - 1)) 40 ((w.1 43 ((3 * ((w.1 34 23) - 1)).toNatClampNeg)).toNatClampNeg) (w.1 43 (((3 * ((w.1 34 23) - 1)) + 1).toNatClampNeg))) 40 4 (w.1 43 (((3 * ((w.1 34 23) - 1)) + 2).toNatClampNeg)))) 3 rfl).trans <|
    runs_ret rfl
theorem p_X9_undo_0F_R {ex : Ex} {w : Wd} (h1 : (w.1 34 23) = 0) : runs (T_X9_undo ex) (0, [.ref 34, .null], [], w) = some (some (.int (-2)), updI w 34 0 0) := 
    (runs_stps (q' := (9, [.ref 34, .null], [.int (w.1 34 23)], updI w 34 0 0)) 5 rfl).trans <|
    (runs_if_t (a := 12) (b := 15) (L := [.ref 34, .null]) (st := []) (w := updI w 34 0 0) rfl h1).trans <|
    (runs_stps (q' := (14, [.ref 34, .null], [.int (-2)], updI w 34 0 0)) 1 rfl).trans <|
    runs_ret rfl
theorem p_X9_now_0_L12 {ex : Ex} {x1 : Int32} {w : Wd} : runs (T_X9_now ex) (0, [.ref 34, .int x1, .null, .null, .null, .null], [], w) = runs (T_X9_now ex) (12, [.ref 34, .int x1, .int 0, .int 0, .int 0, .null], [], updI w 34 0 0) := 
    (runs_stps (q' := (12, [.ref 34, .int x1, .int 0, .int 0, .int 0, .null], [], updI w 34 0 0)) 9 rfl).trans <|
    rfl
theorem p_X9_now_12TTTTT_R {ex : Ex} {x1 : Int32} {x2 : Int32} {x3 : Int32} {x4 : Int32} {v5 : Value} {w : Wd} (h1 : (w.1 34 14) ≤ x4) (h2 : ¬ x1 = 0) (h3 : ¬ x1 = 1) (h4 : ¬ x1 = 2) (h5 : ¬ x1 = 3) : runs (T_X9_now ex) (12, [.ref 34, .int x1, .int x2, .int x3, .int x4, v5], [], w) = some (some (.int (-1)), w) := 
    (runs_stps (q' := (18, [.ref 34, .int x1, .int x2, .int x3, .int x4, .null], [.int (w.1 34 14), .int x4], w)) 3 rfl).trans <|
    (runs_if_t (a := 66) (b := 21) (L := [.ref 34, .int x1, .int x2, .int x3, .int x4, .null]) (st := []) (w := w) rfl h1).trans <|
    (runs_stps (q' := (67, [.ref 34, .int x1, .int x2, .int x3, .null, .null], [.int x1], w)) 1 rfl).trans <|
    (runs_if_f (a := 70) (b := 79) (L := [.ref 34, .int x1, .int x2, .int x3, .null, .null]) (st := []) (w := w) rfl h2).trans <|
    (runs_stps (q' := (81, [.ref 34, .int x1, .int x2, .int x3, .null, .null], [.int 1, .int x1], w)) 2 rfl).trans <|
    (runs_if_f (a := 84) (b := 88) (L := [.ref 34, .int x1, .int x2, .int x3, .null, .null]) (st := []) (w := w) rfl h3).trans <|
    (runs_stps (q' := (90, [.ref 34, .int x1, .null, .int x3, .null, .null], [.int 2, .int x1], w)) 2 rfl).trans <|
    (runs_if_f (a := 93) (b := 97) (L := [.ref 34, .int x1, .null, .int x3, .null, .null]) (st := []) (w := w) rfl h4).trans <|
    (runs_stps (q' := (99, [.ref 34, .int x1, .null, .null, .null, .null], [.int 3, .int x1], w)) 2 rfl).trans <|
    (runs_if_f (a := 102) (b := 109) (L := [.ref 34, .int x1, .null, .null, .null, .null]) (st := []) (w := w) rfl h5).trans <|
    (runs_stps (q' := (110, [.null, .null, .null, .null, .null, .null], [.int (-1)], w)) 1 rfl).trans <|
    runs_ret rfl
theorem p_X9_now_12TTTTF_R {ex : Ex} {x1 : Int32} {x2 : Int32} {x3 : Int32} {x4 : Int32} {v5 : Value} {w : Wd} (h1 : (w.1 34 14) ≤ x4) (h2 : ¬ x1 = 0) (h3 : ¬ x1 = 1) (h4 : ¬ x1 = 2) (h5 : x1 = 3) : runs (T_X9_now ex) (12, [.ref 34, .int x1, .int x2, .int x3, .int x4, v5], [], w) = some (some (.int (w.1 34 23)), w) := 
    (runs_stps (q' := (18, [.ref 34, .int x1, .int x2, .int x3, .int x4, .null], [.int (w.1 34 14), .int x4], w)) 3 rfl).trans <|
    (runs_if_t (a := 66) (b := 21) (L := [.ref 34, .int x1, .int x2, .int x3, .int x4, .null]) (st := []) (w := w) rfl h1).trans <|
    (runs_stps (q' := (67, [.ref 34, .int x1, .int x2, .int x3, .null, .null], [.int x1], w)) 1 rfl).trans <|
    (runs_if_f (a := 70) (b := 79) (L := [.ref 34, .int x1, .int x2, .int x3, .null, .null]) (st := []) (w := w) rfl h2).trans <|
    (runs_stps (q' := (81, [.ref 34, .int x1, .int x2, .int x3, .null, .null], [.int 1, .int x1], w)) 2 rfl).trans <|
    (runs_if_f (a := 84) (b := 88) (L := [.ref 34, .int x1, .int x2, .int x3, .null, .null]) (st := []) (w := w) rfl h3).trans <|
    (runs_stps (q' := (90, [.ref 34, .int x1, .null, .int x3, .null, .null], [.int 2, .int x1], w)) 2 rfl).trans <|
    (runs_if_f (a := 93) (b := 97) (L := [.ref 34, .int x1, .null, .int x3, .null, .null]) (st := []) (w := w) rfl h4).trans <|
    (runs_stps (q' := (99, [.ref 34, .int x1, .null, .null, .null, .null], [.int 3, .int x1], w)) 2 rfl).trans <|
    (runs_if_t (a := 102) (b := 109) (L := [.ref 34, .int x1, .null, .null, .null, .null]) (st := []) (w := w) rfl h5).trans <|
    (runs_stps (q' := (110, [.ref 34, .int x1, .null, .null, .null, .null], [.int (w.1 34 23)], w)) 3 rfl).trans <|
    runs_ret rfl
theorem p_X9_now_12TTTF_R {ex : Ex} {x1 : Int32} {x2 : Int32} {x3 : Int32} {x4 : Int32} {v5 : Value} {w : Wd} (h1 : (w.1 34 14) ≤ x4) (h2 : ¬ x1 = 0) (h3 : ¬ x1 = 1) (h4 : x1 = 2) : runs (T_X9_now ex) (12, [.ref 34, .int x1, .int x2, .int x3, .int x4, v5], [], w) = some (some (.int x3), w) := 
    (runs_stps (q' := (18, [.ref 34, .int x1, .int x2, .int x3, .int x4, .null], [.int (w.1 34 14), .int x4], w)) 3 rfl).trans <|
    (runs_if_t (a := 66) (b := 21) (L := [.ref 34, .int x1, .int x2, .int x3, .int x4, .null]) (st := []) (w := w) rfl h1).trans <|
    (runs_stps (q' := (67, [.ref 34, .int x1, .int x2, .int x3, .null, .null], [.int x1], w)) 1 rfl).trans <|
    (runs_if_f (a := 70) (b := 79) (L := [.ref 34, .int x1, .int x2, .int x3, .null, .null]) (st := []) (w := w) rfl h2).trans <|
    (runs_stps (q' := (81, [.ref 34, .int x1, .int x2, .int x3, .null, .null], [.int 1, .int x1], w)) 2 rfl).trans <|
    (runs_if_f (a := 84) (b := 88) (L := [.ref 34, .int x1, .int x2, .int x3, .null, .null]) (st := []) (w := w) rfl h3).trans <|
    (runs_stps (q' := (90, [.ref 34, .int x1, .null, .int x3, .null, .null], [.int 2, .int x1], w)) 2 rfl).trans <|
    (runs_if_t (a := 93) (b := 97) (L := [.ref 34, .int x1, .null, .int x3, .null, .null]) (st := []) (w := w) rfl h4).trans <|
    (runs_stps (q' := (110, [.ref 34, .int x1, .null, .int x3, .null, .null], [.int x3], w)) 2 rfl).trans <|
    runs_ret rfl
theorem p_X9_now_12TTF_R {ex : Ex} {x1 : Int32} {x2 : Int32} {x3 : Int32} {x4 : Int32} {v5 : Value} {w : Wd} (h1 : (w.1 34 14) ≤ x4) (h2 : ¬ x1 = 0) (h3 : x1 = 1) : runs (T_X9_now ex) (12, [.ref 34, .int x1, .int x2, .int x3, .int x4, v5], [], w) = some (some (.int x2), w) := 
    (runs_stps (q' := (18, [.ref 34, .int x1, .int x2, .int x3, .int x4, .null], [.int (w.1 34 14), .int x4], w)) 3 rfl).trans <|
    (runs_if_t (a := 66) (b := 21) (L := [.ref 34, .int x1, .int x2, .int x3, .int x4, .null]) (st := []) (w := w) rfl h1).trans <|
    (runs_stps (q' := (67, [.ref 34, .int x1, .int x2, .int x3, .null, .null], [.int x1], w)) 1 rfl).trans <|
    (runs_if_f (a := 70) (b := 79) (L := [.ref 34, .int x1, .int x2, .int x3, .null, .null]) (st := []) (w := w) rfl h2).trans <|
    (runs_stps (q' := (81, [.ref 34, .int x1, .int x2, .int x3, .null, .null], [.int 1, .int x1], w)) 2 rfl).trans <|
    (runs_if_t (a := 84) (b := 88) (L := [.ref 34, .int x1, .int x2, .int x3, .null, .null]) (st := []) (w := w) rfl h3).trans <|
    (runs_stps (q' := (110, [.ref 34, .int x1, .int x2, .int x3, .null, .null], [.int x2], w)) 2 rfl).trans <|
    runs_ret rfl
theorem p_X9_now_12TF_R {ex : Ex} {x1 : Int32} {x2 : Int32} {x3 : Int32} {x4 : Int32} {v5 : Value} {w : Wd} (h1 : (w.1 34 14) ≤ x4) (h2 : x1 = 0) : runs (T_X9_now ex) (12, [.ref 34, .int x1, .int x2, .int x3, .int x4, v5], [], w) = some (some (.int (w.1 40 4)), w) := 
    (runs_stps (q' := (18, [.ref 34, .int x1, .int x2, .int x3, .int x4, .null], [.int (w.1 34 14), .int x4], w)) 3 rfl).trans <|
    (runs_if_t (a := 66) (b := 21) (L := [.ref 34, .int x1, .int x2, .int x3, .int x4, .null]) (st := []) (w := w) rfl h1).trans <|
    (runs_stps (q' := (67, [.ref 34, .int x1, .int x2, .int x3, .null, .null], [.int x1], w)) 1 rfl).trans <|
    (runs_if_t (a := 70) (b := 79) (L := [.ref 34, .int x1, .int x2, .int x3, .null, .null]) (st := []) (w := w) rfl h2).trans <|
    (runs_stps (q' := (110, [.ref 34, .int x1, .int x2, .int x3, .null, .null], [.int (w.1 40 4)], w)) 5 rfl).trans <|
    runs_ret rfl
theorem p_X9_now_12FT_L12 {ex : Ex} {x1 : Int32} {x2 : Int32} {x3 : Int32} {x4 : Int32} {v5 : Value} {r1 : Int32} {w1 : Wd} {w : Wd} (h1 : ¬ (w.1 34 14) ≤ x4) (h2 : vp_in x4 5) (h3 : ex 155 [.int (w.1 40 x4.toNatClampNeg)] w = some (some (.int r1), w1)) (h4 : r1 < (w1.1 39 5)) : runs (T_X9_now ex) (12, [.ref 34, .int x1, .int x2, .int x3, .int x4, v5], [], w) = runs (T_X9_now ex) (12, [.ref 34, .int x1, .int (x2 ||| 0), .int (x3 + r1), .int (x4 + 1), .int r1], [], w1) := 
    (runs_stps (q' := (18, [.ref 34, .int x1, .int x2, .int x3, .int x4, .null], [.int (w.1 34 14), .int x4], w)) 3 rfl).trans <|
    (runs_if_f (a := 66) (b := 21) (L := [.ref 34, .int x1, .int x2, .int x3, .int x4, .null]) (st := []) (w := w) rfl h1).trans <|
    (runs_stps (q' := (27, [.ref 34, .int x1, .int x2, .int x3, .int x4, .null], [.int x4, .ref 40], w)) 3 rfl).trans <|
    (runs_ck (q' := (28, [.ref 34, .int x1, .int x2, .int x3, .int x4, .null], [.int (w.1 40 x4.toNatClampNeg)], w)) rfl h2).trans <|
    (runs_callS (rv := some (.int r1)) (w' := w1) rfl rfl rfl h3).trans <|
    (runs_stps (q' := (42, [.ref 34, .int x1, .int x2, .int x3, .int x4, .int r1], [.int (w1.1 39 5), .int r1, .int x2], w1)) 7 rfl).trans <|
    (runs_if_t (a := 52) (b := 45) (L := [.ref 34, .int x1, .int x2, .int x3, .int x4, .int r1]) (st := [.int x2]) (w := w1) rfl h4).trans <|
    (runs_stps (q' := (12, [.ref 34, .int x1, .int (x2 ||| 0), .int (x3 + r1), .int (x4 + 1), .int r1], [], w1)) 9 rfl).trans <|
    rfl
theorem p_X9_now_12FF_L12 {ex : Ex} {x1 : Int32} {x2 : Int32} {x3 : Int32} {x4 : Int32} {v5 : Value} {r1 : Int32} {w1 : Wd} {w : Wd} (h1 : ¬ (w.1 34 14) ≤ x4) (h2 : vp_in x4 5) (h3 : ex 155 [.int (w.1 40 x4.toNatClampNeg)] w = some (some (.int r1), w1)) (h4 : ¬ r1 < (w1.1 39 5)) : runs (T_X9_now ex) (12, [.ref 34, .int x1, .int x2, .int x3, .int x4, v5], [], w) = runs (T_X9_now ex) (12, [.ref 34, .int x1, .int (x2 ||| (1 <<< (x4 &&& 31))), .int (x3 + r1), .int (x4 + 1), .int r1], [], w1) := 
    (runs_stps (q' := (18, [.ref 34, .int x1, .int x2, .int x3, .int x4, .null], [.int (w.1 34 14), .int x4], w)) 3 rfl).trans <|
    (runs_if_f (a := 66) (b := 21) (L := [.ref 34, .int x1, .int x2, .int x3, .int x4, .null]) (st := []) (w := w) rfl h1).trans <|
    (runs_stps (q' := (27, [.ref 34, .int x1, .int x2, .int x3, .int x4, .null], [.int x4, .ref 40], w)) 3 rfl).trans <|
    (runs_ck (q' := (28, [.ref 34, .int x1, .int x2, .int x3, .int x4, .null], [.int (w.1 40 x4.toNatClampNeg)], w)) rfl h2).trans <|
    (runs_callS (rv := some (.int r1)) (w' := w1) rfl rfl rfl h3).trans <|
    (runs_stps (q' := (42, [.ref 34, .int x1, .int x2, .int x3, .int x4, .int r1], [.int (w1.1 39 5), .int r1, .int x2], w1)) 7 rfl).trans <|
    (runs_if_f (a := 52) (b := 45) (L := [.ref 34, .int x1, .int x2, .int x3, .int x4, .int r1]) (st := [.int x2]) (w := w1) rfl h4).trans <|
    (runs_stps (q' := (12, [.ref 34, .int x1, .int (x2 ||| (1 <<< (x4 &&& 31))), .int (x3 + r1), .int (x4 + 1), .int r1], [], w1)) 12 rfl).trans <|
    rfl
theorem p_X9_canSay_0T_R {ex : Ex} {x1 : Int32} {x2 : Int32} {x3 : Int32} {w : Wd} (h1 : x1 = (w.1 34 30)) (h2 : vp_in ((5 * x2) + x3) 25) (h3 : (w.1 48 (((5 * x2) + x3).toNatClampNeg)) = 0 ∨ (w.1 48 (((5 * x2) + x3).toNatClampNeg)) = 1) : runs (T_X9_canSay ex) (0, [.ref 34, .int x1, .int x2, .int x3, .null, .null], [], w) = some (some (.int (w.1 48 (((5 * x2) + x3).toNatClampNeg))), w) := 
    (runs_stps (q' := (5, [.ref 34, .int x1, .int x2, .int x3, .null, .null], [.int (w.1 34 30), .int x1], w)) 3 rfl).trans <|
    (runs_if_t (a := 113) (b := 8) (L := [.ref 34, .int x1, .int x2, .int x3, .null, .null]) (st := []) (w := w) rfl h1).trans <|
    (runs_stps (q' := (122, [.ref 34, .null, .int x2, .int x3, .null, .null], [.int ((5 * x2) + x3), .ref 48], w)) 7 rfl).trans <|
    (runs_ck (q' := (123, [.ref 34, .null, .int x2, .int x3, .null, .null], [.int (w.1 48 (((5 * x2) + x3).toNatClampNeg))], w)) rfl h2).trans <|
    runs_rck rfl h3
theorem p_X9_canSay_0F_L11 {ex : Ex} {x1 : Int32} {x2 : Int32} {x3 : Int32} {w : Wd} (h1 : ¬ x1 = (w.1 34 30)) : runs (T_X9_canSay ex) (0, [.ref 34, .int x1, .int x2, .int x3, .null, .null], [], w) = runs (T_X9_canSay ex) (11, [.ref 34, .int x1, .int x2, .int x3, .int 0, .null], [], w) := 
    (runs_stps (q' := (5, [.ref 34, .int x1, .int x2, .int x3, .null, .null], [.int (w.1 34 30), .int x1], w)) 3 rfl).trans <|
    (runs_if_f (a := 113) (b := 8) (L := [.ref 34, .int x1, .int x2, .int x3, .null, .null]) (st := []) (w := w) rfl h1).trans <|
    (runs_stps (q' := (11, [.ref 34, .int x1, .int x2, .int x3, .int 0, .null], [], w)) 2 rfl).trans <|
    rfl
